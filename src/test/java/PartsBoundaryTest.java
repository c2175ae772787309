/** Promises 1 to 13: each sentence that names a boundary case, by itself. */
final class PartsBoundaryTest {
  public static void main(String[] args) {
    newObject();
    part();
    of();
    change();
    thing();
    knows();
    heirs();
    turnAndIth();
    brings();
    value();
    dearest();
    best();
    Due.end("PartsBoundaryTest");
  }

  private static void newObject() {
    HeirHalves before = Twin.full();
    before.seed(5);
    before.image();
    HeirHalves x = new HeirHalves();
    Due.sentence("1: All as at first");
    int[] counts = {0, 0, 2, 0, 0, 0, 1, 0};
    for (int what = 0; what < 8; what++) {
      Due.due("count(" + what + ")", x.count(what), counts[what]);
    }
    Due.due("ith(0)", x.ith(0), 0);
    Due.due("ith(1)", x.ith(1), 1);
    Due.due("ith(2)", x.ith(2), Due.BEYOND);
    for (int which = -1; which < 7; which++) {
      Due.due("status of a new one", new HeirHalves().status(which), 0);
    }

    Due.sentence("1: no PARTS");
    Due.due("of(0, 0)", x.of(0, 0), Due.BEYOND);
    Due.due("value(0, 0)", x.value(0, 0), 0);
    Due.due("value(0, 1)", x.value(0, 1), Due.BEYOND);

    Due.sentence("1: THE TAPE is empty");
    Due.due("wipe", x.wipe(), 0);
    Due.due("text", x.text(), -1);

    Due.sentence("1: no image is kept");
    Due.due("undo", x.undo(), Due.NONE);
    Due.due("tear", x.tear(), 0);
  }

  private static void part() {
    Due.sentence("2: A new PART: its number");
    HeirHalves x = new HeirHalves();
    x.part(6, 4);
    x.image();
    x.part(5, 3);
    x.change(1, 4, 77);
    x.change(1, 3, 8);
    x.undo();
    Due.due("the number is free again behind undo()", x.part(2, 2), 1);
    int[] traits = {2, 2, 0, 0, 10, 10, 10, 10};
    for (int what = 0; what < 8; what++) {
      Due.due("of(1, " + what + "), nothing of the one before", x.of(1, what), traits[what]);
    }
    Due.due("thing(3)", x.thing(3), 0);

    Due.sentence("2: BEYOND");
    Twin.range("part(kind, 0)", Twin::some, 0, 6, (y, v) -> y.part(v, 0));
    Twin.range("part(0, thing)", Twin::some, 0, 4, (y, v) -> y.part(0, v));

    Due.sentence("2: FULL");
    Twin.refused("a 10th PART", Due.FULL, Twin::full, y -> y.part(0, 0));

    Due.sentence("2: BEYOND. FULL: in this order");
    Twin.refused("part(7, 0)", Due.BEYOND, Twin::full, y -> y.part(7, 0));
    Twin.refused("part(0, -1)", Due.BEYOND, Twin::full, y -> y.part(0, -1));
  }

  private static void of() {
    Due.sentence("3: BEYOND");
    Twin.range("of(part, 0)", Twin::some, 0, 2, (y, v) -> y.of(v, 0));
    Twin.range("of(part, 7)", Twin::full, 0, 8, (y, v) -> y.of(v, 7));
    Twin.range("of(0, what)", Twin::some, 0, 7, (y, v) -> y.of(0, v));
    Twin.refused("of(0, 0) without PARTS", Due.BEYOND, HeirHalves::new, y -> y.of(0, 0));

    Due.sentence("3: 4 + HEIR (0 to 3) WORTH: also of those not there");
    HeirHalves x = Twin.alone();
    Due.due("of(0, 7)", x.of(0, 7), 33);
  }

  private static void change() {
    int[] most = {6, 4, 9, 9, 99, 99, 99, 99};
    Due.sentence("4: what it was");
    for (int what = 0; what < 8; what++) {
      HeirHalves x = Due.estate("glued of 3 worth 1 2 3 4 edges 5 6");
      int[] was = {6, 3, 5, 6, 1, 2, 3, 4};
      Due.due("change(0, " + what + ", most)", x.change(0, what, most[what]), was[what]);
      Due.due("change(0, " + what + ", 0)", x.change(0, what, 0), most[what]);
      Due.due("change(0, " + what + ", 0) again", x.change(0, what, 0), 0);
      for (int other = 0; other < 8; other++) {
        Due.due("of(0, " + other + ")", x.of(0, other), other == what ? 0 : was[other]);
      }
    }

    Due.sentence("4: BEYOND");
    Twin.range("change(part, 4, 1)", Twin::some, 0, 2, (y, v) -> y.change(v, 4, 1));
    Twin.range("change(0, what, 1)", Twin::some, 0, 7, (y, v) -> y.change(0, v, 1));
    for (int what = 0; what < 8; what++) {
      int one = what;
      Twin.range("change(0, " + what + ", v)", Twin::some, 0, most[what], (y, v) -> y.change(0, one, v));
    }
    Twin.refused("change without PARTS", Due.BEYOND, HeirHalves::new, y -> y.change(0, 0, 0));

    Due.sentence("4: THING (1) of a PART becomes v");
    HeirHalves moved = Due.estate("part of 0;part of 0;whole of 0 worth 9");
    Due.due("a WHOLE one", moved.value(0, 4), 0);
    moved.change(0, 1, 4);
    Due.due("thing(0)", moved.thing(0), 6);
    Due.due("thing(4)", moved.thing(4), 1);
    moved.change(1, 1, 4);
    Due.due("whole now by itself", moved.value(0, 4), 9);
    moved.change(2, 1, 0);
    Due.due("thing(0), to where it was", moved.thing(0), 4);
  }

  private static void thing() {
    Due.sentence("5: PARTS of a THING, as a set: BEYOND");
    Twin.range("thing(thing)", Twin::some, 0, 4, HeirHalves::thing);
    HeirHalves x = Twin.some();
    int[] sets = {5, 0, 2, 0, 0};
    for (int thing = 0; thing < 5; thing++) {
      Due.due("thing(" + thing + ")", x.thing(thing), sets[thing]);
    }
    HeirHalves all = new HeirHalves();
    for (int p = 0; p < 9; p++) {
      all.part(0, 4);
    }
    Due.due("all PARTS of one THING", all.thing(4), 511);
  }

  private static void knows() {
    Due.sentence("6: An HEIR (0 to 3) KNOWS, or not: 1 if it did, else 0");
    for (int heir = 0; heir < 4; heir++) {
      HeirHalves x = new HeirHalves();
      Due.due("not, as before", x.knows(heir, false), 0);
      Due.due("knows", x.knows(heir, true), 0);
      Due.due("knows, as before", x.knows(heir, true), 1);
      Due.due("who KNOW", x.count(4), 1 << heir);
      Due.due("not any more", x.knows(heir, false), 1);
      Due.due("who KNOW", x.count(4), 0);
    }

    Due.sentence("6: BEYOND");
    Twin.range("knows(heir, true)", Twin::alone, 0, 3, (y, v) -> y.knows(v, true));
    Twin.range("knows(heir, false)", Twin::alone, 0, 3, (y, v) -> y.knows(v, false));
  }

  private static void heirs() {
    Due.sentence("7: How many HEIRS there are (1 to 4) becomes n: how many there were. BEYOND");
    HeirHalves x = new HeirHalves();
    int[][] dues = {{4, 2}, {4, 4}, {1, 4}, {3, 1}, {2, 3}};
    for (int[] d : dues) {
      Due.due("heirs(" + d[0] + ")", x.heirs(d[0]), d[1]);
      Due.due("count(2)", x.count(2), d[0]);
    }
    Twin.range("heirs(n)", Twin::some, 1, 4, HeirHalves::heirs);

    Due.sentence("7: ORDER is 0, 1, .. then");
    HeirHalves y = Twin.some();
    y.heirs(3);
    for (int i = 0; i < 3; i++) {
      Due.due("ith(" + i + "), as many as before", y.ith(i), i);
    }
    y.turn(0, 2);
    y.heirs(1);
    Due.due("ith(0) of one", y.ith(0), 0);
    y.heirs(4);
    for (int i = 0; i < 4; i++) {
      Due.due("ith(" + i + ")", y.ith(i), i);
    }
  }

  private static void turnAndIth() {
    Due.sentence("8: the one that is first then");
    HeirHalves x = new HeirHalves();
    x.heirs(4);
    Due.due("turn of others", x.turn(2, 3), 0);
    Due.due("turn of one place", x.turn(3, 3), 0);
    Due.due("turn to the first", x.turn(3, 0), 2);
    Due.due("turn of the first with itself", x.turn(0, 0), 2);
    int[] order = {2, 1, 3, 0};
    for (int i = 0; i < 4; i++) {
      Due.due("ith(" + i + ")", x.ith(i), order[i]);
    }

    Due.sentence("8: BEYOND");
    Twin.range("turn(i, 1)", Twin::some, 0, 2, (y, v) -> y.turn(v, 1));
    Twin.range("turn(1, j)", Twin::some, 0, 2, (y, v) -> y.turn(1, v));
    Twin.range("turn(i, 0) of one", Twin::alone, 0, 0, (y, v) -> y.turn(v, 0));
    Twin.range("turn(0, j) of four", Twin::full, 0, 3, (y, v) -> y.turn(0, v));

    Due.sentence("9: BEYOND");
    Twin.range("ith(i)", Twin::some, 0, 2, HeirHalves::ith);
    Twin.range("ith(i) of one", Twin::alone, 0, 0, HeirHalves::ith);
    Twin.range("ith(i) of four", Twin::full, 0, 3, HeirHalves::ith);
  }

  private static void brings() {
    Due.sentence("10: to an HEIR (0 to 3): BEYOND");
    Twin.range("brings(part, 0, 7)", Twin::some, 0, 2, (y, v) -> y.brings(v, 0, 7));
    Twin.range("brings(0, heir, 7)", Twin::alone, 0, 3, (y, v) -> y.brings(0, v, 7));
    Twin.refused("brings without PARTS", Due.BEYOND, HeirHalves::new, y -> y.brings(0, 0, 0));

    Due.sentence("10: BEYOND: set (bits of no PART), too");
    int[] noSets = {9, 15, 513, -1, Integer.MAX_VALUE, Integer.MIN_VALUE + 1};
    for (int set : noSets) {
      Twin.refused("brings(0, 0, " + set + ")", Due.BEYOND, Twin::some, y -> y.brings(0, 0, set));
    }
    Twin.refused("brings(0, 0, 513) of 9", Due.BEYOND, Twin::full, y -> y.brings(0, 0, 513));
    Due.due("brings(0, 0, 7)", Twin.some().brings(0, 0, 7), 100);
    Due.due("brings(8, 0, 511)", Twin.full().brings(8, 0, 511), 20);

    Due.sentence("10: STATE: the PART isn't in the SET");
    Twin.refused("brings(0, 0, 6)", Due.STATE, Twin::some, y -> y.brings(0, 0, 6));
    Twin.refused("brings(2, 0, 3)", Due.STATE, Twin::some, y -> y.brings(2, 0, 3));
    Twin.refused("brings(2, 0, 0)", Due.STATE, Twin::some, y -> y.brings(2, 0, 0));

    Due.sentence("10: BEYOND. STATE: in this order");
    Twin.refused("brings(0, 0, 8)", Due.BEYOND, Twin::some, y -> y.brings(0, 0, 8));
    Twin.refused("brings(0, 4, 6)", Due.BEYOND, Twin::some, y -> y.brings(0, 4, 6));
    Twin.refused("brings(3, 0, 7)", Due.BEYOND, Twin::some, y -> y.brings(3, 0, 7));
  }

  private static void value() {
    Due.sentence("11: to an HEIR (0 to 3): BEYOND");
    Twin.range("value(heir, 7)", Twin::alone, 0, 3, (y, v) -> y.value(v, 7));
    Twin.range("value(0, set)", Twin::some, 0, 7, (y, v) -> y.value(0, v));
    Twin.range("value(3, set)", Twin::full, 0, 511, (y, v) -> y.value(3, v));
    Twin.range("value(0, set) without PARTS", HeirHalves::new, 0, 0, (y, v) -> y.value(0, v));
    HeirHalves most = new HeirHalves();
    for (int p = 0; p < 9; p++) {
      most.part(1, 0);
      most.change(p, 4, 99);
    }
    Due.due("9 PAIRS of 99", most.value(0, 511), 9 * 198);
  }

  private static void dearest() {
    Due.sentence("12: The HEIR (of those there are)");
    HeirHalves x = Due.estate("part of 0 worth 1 2 3 4");
    for (int n = 1; n <= 4; n++) {
      x.heirs(n);
      Due.due("dearest of " + n, x.dearest(1), n - 1);
    }
    x.change(0, 4, 4);
    Due.due("dearest, alike: the least", x.dearest(1), 0);
    x.turn(0, 3);
    Due.due("the least HEIR, whatever ORDER is", x.dearest(1), 0);
    Due.due("of nothing", x.dearest(0), 0);

    Due.sentence("12: BEYOND");
    Twin.range("dearest(set)", Twin::some, 0, 7, HeirHalves::dearest);
    Twin.range("dearest(set) of 9", Twin::full, 0, 511, HeirHalves::dearest);
  }

  private static void best() {
    Due.sentence("13: The SET of just n PARTS (0 to 9)");
    HeirHalves x = new HeirHalves();
    for (int p = 0; p < 9; p++) {
      x.part(0, 0);
      x.change(p, 7, 10 + p);
    }
    for (int n = 0; n <= 9; n++) {
      Due.due("best(3, " + n + ")", x.best(3, n), 512 - (512 >> n));
      Due.due("best(0, " + n + "), all alike: the least number", x.best(0, n), (1 << n) - 1);
    }
    HeirHalves nothing = Due.estate("part of 0 worth 0;part of 0 worth 0;part of 0 worth 0");
    for (int n = 0; n <= 3; n++) {
      Due.due("best(0, " + n + ") of no VALUE", nothing.best(0, n), (1 << n) - 1);
    }
    HeirHalves less = Due.estate("hourly of 0;hourly of 0;hourly of 0;part of 0 worth 1");
    Due.due("just 4, though 3 have more VALUE", less.best(0, 4), 15);

    Due.sentence("13: BEYOND");
    Twin.range("best(heir, 1)", Twin::alone, 0, 3, (y, v) -> y.best(v, 1));
    Twin.range("best(0, n) of 9", Twin::full, 0, 9, (y, v) -> y.best(0, v));

    Due.sentence("13: NONE: there are not so many");
    Due.due("as many as there are", Twin.some().best(0, 3), 7);
    Twin.refused("one more", Due.NONE, Twin::some, y -> y.best(0, 4));
    Twin.refused("9 of 3", Due.NONE, Twin::some, y -> y.best(0, 9));
    Twin.refused("1 of none", Due.NONE, HeirHalves::new, y -> y.best(0, 1));
    Due.due("0 of none", new HeirHalves().best(0, 0), 0);

    Due.sentence("13: BEYOND. NONE: in this order");
    Twin.refused("10 of 3", Due.BEYOND, Twin::some, y -> y.best(0, 10));
    Twin.refused("9 of 3 to HEIR 4", Due.BEYOND, Twin::some, y -> y.best(4, 9));
  }
}
