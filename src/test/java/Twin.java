import java.util.ArrayList;
import java.util.List;

/** Objects made alike: what an act changes is seen against one to which it wasn't told. */
final class Twin {
  interface Made {
    HeirHalves make();
  }

  interface Act {
    int on(HeirHalves x);
  }

  interface Told {
    int with(HeirHalves x, int v);
  }

  private Twin() {
  }

  /** 3 PARTS, 3 HEIRS in the ORDER 2 0 1, YEAR 90; all else that can be otherwise than at first is so, too. */
  static HeirHalves some() {
    HeirHalves x = new HeirHalves();
    int[][] traits = {{1, 0, 3, 3, 50, 20, 10, 7}, {4, 2, 3, 4, 99, 97, 95, 6}, {3, 0, 5, 3, 10, 20, 30, 5}};
    for (int p = 0; p < 3; p++) {
      x.part(traits[p][0], traits[p][1]);
      for (int what = 2; what < 8; what++) {
        x.change(p, what, traits[p][what]);
      }
    }
    x.heirs(3);
    x.turn(0, 2);
    x.turn(1, 2);
    x.knows(1, true);
    for (int n = 0; n < 90; n += 10) {
      x.years(10);
    }
    x.hold(2, 1);
    x.hold(9, 0);
    x.seed(77);
    x.image();
    x.seed(78);
    x.knows(3, true);
    x.change(0, 7, 33);
    x.hold(2, 2);
    sheet(x, 0, 8, 1, 2, 3, 4, 5);
    sheet(x, 1, 16, 11, 12, 13);
    sheet(x, 2, 8, 21, 22, 23, 24);
    x.feed(0x6b6e6f77, 4);
    x.feed(0x732032, 3);
    return x;
  }

  /** One HEIR alone, of the same. */
  static HeirHalves alone() {
    HeirHalves x = some();
    x.heirs(1);
    return x;
  }

  /** 9 PARTS, 4 HEIRS, THE TAPE full. */
  static HeirHalves full() {
    HeirHalves x = new HeirHalves();
    for (int p = 0; p < 9; p++) {
      x.part(p % 7, p % 5);
    }
    x.heirs(4);
    for (int n = 0; n < 120; n += 4) {
      x.feed(0x20202020, 4);
    }
    return x;
  }

  static void sheet(HeirHalves x, int s, int bits, int... numbers) {
    x.sheet(s, bits, numbers.length);
    for (int i = 0; i < numbers.length; i++) {
      x.write(s, i, numbers[i]);
    }
  }

  /** The act answers a finding: status() counts it, and nothing else is changed. */
  static void refused(String call, int finding, Made made, Act act) {
    HeirHalves x = made.make();
    int[] before = statuses(x);
    Due.due(call, act.on(x), finding);
    int[] after = statuses(x);
    for (int i = 0; i < after.length; i++) {
      boolean counted = i == 0 || i - 1 == Due.BEYOND - finding;
      Due.due("status(" + (i - 1) + ") behind " + call, after[i] - before[i], counted ? 1 : 0);
    }
    unchanged(call, made, act);
  }

  /** The act leaves all that can be told, but for status(), as it was. */
  static void unchanged(String call, Made made, Act act) {
    List<Integer> was = all(made);
    List<Integer> is = all(() -> {
      HeirHalves x = made.make();
      act.on(x);
      return x;
    });
    Due.due("how much there is to tell behind " + call, is.size(), was.size());
    for (int i = 0; i < Math.min(is.size(), was.size()); i++) {
      Due.due("number " + i + " of all behind " + call, is.get(i), was.get(i));
    }
  }

  /** No finding from the least to the most; BEYOND below, above, and far off. */
  static void range(String call, Made made, int least, int most, Told act) {
    int[] in = {least, most};
    for (int v : in) {
      HeirHalves x = made.make();
      int before = x.status(-1);
      act.with(x, v);
      Due.due("findings of " + call + " with " + v, x.status(-1), before);
    }
    int[] out = {least - 1, most + 1, Integer.MIN_VALUE, Integer.MAX_VALUE};
    for (int v : out) {
      refused(call + " with " + v, Due.BEYOND, made, x -> act.with(x, v));
    }
  }

  static int[] statuses(HeirHalves x) {
    int[] told = new int[8];
    for (int which = -1; which < 7; which++) {
      told[which + 1] = x.status(which);
    }
    return told;
  }

  /** All that can be told of objects made so; telling some of it changes them, so there is a new one for each. */
  private static List<Integer> all(Made made) {
    List<Integer> told = new ArrayList<>();
    estate(made.make(), told);
    told.add(made.make().tear());
    HeirHalves kept = made.make();
    told.add(kept.undo());
    estate(kept, told);
    HeirHalves read = made.make();
    told.add(read.text());
    estate(read, told);
    for (int s = 0; s < 4; s++) {
      numbers(made.make(), s, told);
    }
    return told;
  }

  private static void estate(HeirHalves x, List<Integer> told) {
    for (int what = 0; what < 8; what++) {
      told.add(x.count(what));
    }
    for (int thing = 0; thing < 5; thing++) {
      told.add(x.thing(thing));
    }
    for (int i = 0; i < x.count(2); i++) {
      told.add(x.ith(i));
    }
    for (int spot = 0; spot < 10; spot++) {
      told.add(x.as(spot, 0));
    }
    for (int p = 0; p < x.count(1); p++) {
      for (int what = 0; what < 8; what++) {
        told.add(x.of(p, what));
      }
    }
    for (int heir = 0; heir < x.count(2); heir++) {
      told.add(x.gets(heir, (1 << x.count(1)) - 1));
    }
  }

  /** Numbers of a sheet, by way of another one and of a WORTH. */
  private static void numbers(HeirHalves x, int s, List<Integer> told) {
    x.part(0, 0);
    int other = (s + 1) % 4;
    for (int bits = 8; bits <= 32; bits += bits) {
      x.sheet(other, bits, 1);
      for (int i = 0; i < 40; i++) {
        int came = x.copy(s, i, other, 0, 1);
        told.add(came);
        if (came == 1) {
          told.add(x.load(other, 0));
          told.add(x.of(0, 4));
        }
      }
    }
  }
}
