/** The document's Terms but for texts: each sentence that names a boundary case, by itself. */
final class TermsBoundaryTest {
  public static void main(String[] args) {
    findings();
    leastNumber();
    partsAndTraits();
    pairAndWhole();
    livingAndHourly();
    feignedAndGlued();
    heirsAndOrder();
    halves();
    alikeWays();
    spotsAndSheets();
    manyCalls();
    Due.end("TermsBoundaryTest");
  }

  private static void findings() {
    Due.sentence("FINDINGS: LOW is -1000001; LOW BEYOND, LOW - 1 FULL, .. LOW - 6 SIZE");
    HeirHalves x = Twin.full();
    Due.due("BEYOND", x.ith(4), -1000001);
    Due.due("FULL", x.part(0, 0), -1000002);
    x.hold(0, 0);
    Due.due("KIND", x.as(0, 6), -1000003);
    Due.due("NONE", x.undo(), -1000004);
    Due.due("STATE", x.brings(0, 0, 2), -1000005);
    Due.due("MISSING", x.judge(0), -1000006);
    Due.due("SIZE", x.sheet(0, 8, -1), -1000007);

    Due.sentence("What seed() and count(6) tell, z, may be any int: that is no finding");
    int[] any = {-1000000, -1000001, -1000002, -1000007, -1000008, Integer.MIN_VALUE, Integer.MAX_VALUE, 0, -1};
    HeirHalves y = new HeirHalves();
    int last = 1;
    for (int z : any) {
      Due.due("seed(" + z + ")", y.seed(z), last);
      Due.due("count(6)", y.count(6), z);
      last = z;
    }
    Due.due("findings", y.status(-1), 0);
  }

  private static void leastNumber() {
    Due.sentence("of several that would do the least number counts");
    HeirHalves x = Due.estate("heirs 0 1 2 3;part of 0;part of 0;part of 0");
    Due.due("dearest", x.dearest(7), 0);
    Due.due("best of 1", x.best(3, 1), 1);
    Due.due("best of 2", x.best(3, 2), 3);
    x.change(0, 4, 0);
    Due.due("dearest, but for HEIR 0", x.dearest(7), 1);
    Due.due("best of 1, but for PART 0", x.best(0, 1), 2);
    HeirHalves none = Due.estate("heirs 1 2 0;part of 0 worth 0 0 0;part of 0 worth 0 0 0");
    Due.due("seat", none.seat(2), 0);
    Due.due("common", none.common(), 0);
    Due.due("fair", none.fair(), 12);
    Due.due("cut", none.cut(3), 1);
  }

  private static void partsAndTraits() {
    Due.sentence("PARTS 0, 1, .. (at most 9)");
    HeirHalves x = new HeirHalves();
    for (int p = 0; p < 9; p++) {
      Due.due("part", x.part(0, 0), p);
    }
    Due.due("a 10th", x.part(0, 0), Due.FULL);
    Due.due("of the 9th", x.of(8, 4), 10);
    Due.due("of a 10th", x.of(9, 4), Due.BEYOND);

    Due.sentence("each of a THING (0 to 4)");
    Twin.range("part(0, thing)", Twin::some, 0, 4, (y, v) -> y.part(0, v));
    Twin.range("change(0, 1, thing)", Twin::some, 0, 4, (y, v) -> y.change(0, 1, v));

    Due.sentence("a WORTH to each HEIR 0 to 3 (0 to 99; 10 at first)");
    for (int heir = 0; heir < 4; heir++) {
      int what = 4 + heir;
      Due.due("first WORTH to " + heir, x.of(0, what), 10);
      Twin.range("change(0, " + what + ", worth)", Twin::some, 0, 99, (y, v) -> y.change(0, what, v));
      x.change(0, what, 99);
      Due.due("value of 99", x.value(heir, 1), 99);
      x.change(0, what, 0);
      Due.due("value of 0", x.value(heir, 1), 0);
    }

    Due.sentence("EDGES (left 0 to 9, right 0 to 9; 0 at first)");
    for (int what = 2; what < 4; what++) {
      int edge = what;
      Due.due("first EDGE", x.of(1, what), 0);
      Twin.range("change(0, " + what + ", edge)", Twin::some, 0, 9, (y, v) -> y.change(0, edge, v));
    }

    Due.sentence("KINDS: 0 PART .. 6 GLUED");
    Twin.range("part(kind, 0)", Twin::some, 0, 6, (y, v) -> y.part(v, 0));
    Twin.range("change(0, 0, kind)", Twin::some, 0, 6, (y, v) -> y.change(0, 0, v));

    Due.sentence("KNOWS: none at first");
    Due.due("count(4)", new HeirHalves().count(4), 0);

    Due.sentence("YEAR is 0 at first (99 at most)");
    HeirHalves old = new HeirHalves();
    Due.due("first YEAR", old.count(0), 0);
    for (int n = 0; n < 4; n++) {
      old.years(20);
    }
    Due.due("years(19)", old.years(19), 0);
    Due.due("YEAR 99", old.count(0), 99);
    Due.due("a YEAR more", old.years(1), Due.STATE);
    Due.due("YEAR, still", old.count(0), 99);
  }

  private static void pairAndWhole() {
    HeirHalves x = Due.estate("pair of 0 worth 7;part of 0 worth 9;part of 1 worth 8;whole of 2 worth 20",
        "pair of 1 worth 99;whole of 3 worth 6;whole of 3 worth 5;living of 3");
    Due.sentence("PAIR: as much again if another PART of its THING is in the SET");
    Due.due("alone", x.brings(0, 0, 1), 7);
    Due.due("with another", x.brings(0, 0, 3), 14);
    Due.due("with one of another THING", x.brings(0, 0, 1 | 4 | 8), 7);
    Due.due("99 and as much again", x.brings(4, 0, 16 | 4), 198);
    Due.due("the other one has no more by it", x.brings(1, 0, 3), 9);

    Due.sentence("WHOLE: as a PAIR, but 0 if not all PARTS of its THING are in the SET");
    Due.due("its THING's only PART", x.brings(3, 0, 8), 20);
    Due.due("with others of other THINGS alone", x.brings(3, 0, 255), 20);
    Due.due("alone", x.brings(5, 0, 32), 0);
    Due.due("all but one", x.brings(5, 0, 32 | 64), 0);
    Due.due("all", x.brings(5, 0, 32 | 64 | 128), 12);
    Due.due("all and others", x.brings(6, 0, 255), 10);
    x.change(7, 1, 4);
    Due.due("all, now that one is of another THING", x.brings(5, 0, 32 | 64), 12);
    x.part(0, 3);
    Due.due("all but a new one", x.brings(5, 0, 32 | 64), 0);

    Due.sentence("VALUE: what its PARTS BRING together");
    Due.due("of nothing", x.value(0, 0), 0);
    Due.due("of one", x.value(0, 1), 7);
    Due.due("of two", x.value(0, 3), 14 + 9);
    Due.due("of a WHOLE that isn't", x.value(0, 32), 0);
  }

  private static void livingAndHourly() {
    HeirHalves x = Due.estate("living of 0 worth 13 12 11;hourly of 1 worth 15 13 0;part of 2;part of 2;part of 3");
    Due.sentence("LIVING: as a PART, less YEAR (0 at least)");
    Due.due("YEAR 0", x.brings(0, 0, 1), 13);
    x.years(12);
    Due.due("one above YEAR", x.brings(0, 0, 1), 1);
    Due.due("YEAR", x.brings(0, 1, 1), 0);
    Due.due("one below YEAR", x.brings(0, 2, 1), 0);
    Due.due("a PART stays", x.value(0, 4), 10);

    Due.sentence("HOURLY: as a LIVING one, but half (cut) if there are 4 or more PARTS in the SET");
    Due.due("1 PART", x.brings(1, 0, 2), 3);
    Due.due("3 PARTS", x.brings(1, 0, 2 | 4 | 8), 3);
    Due.due("4 PARTS", x.brings(1, 0, 2 | 4 | 8 | 16), 1);
    Due.due("5 PARTS", x.brings(1, 0, 31), 1);
    Due.due("half of 1", x.brings(1, 1, 31), 0);
    Due.due("0 at least", x.brings(1, 2, 2), 0);
    Due.due("half of that", x.brings(1, 2, 31), 0);
    Due.due("a LIVING one isn't half", x.brings(0, 0, 31), 1);
    HeirHalves even = Due.estate("hourly of 1 worth 15;hourly of 1 worth 16;part of 1;part of 1");
    Due.sentence("Quotients are cut");
    Due.due("half of 15", even.brings(0, 0, 15), 7);
    Due.due("half of 16", even.brings(1, 0, 15), 8);
    Due.due("each is cut by itself", even.value(0, 15), 7 + 8 + 20);
    even.years(1);
    Due.due("less YEAR first, half then", even.brings(1, 0, 15), 7);
  }

  private static void feignedAndGlued() {
    HeirHalves x = Due.estate("feigned of 0 worth 30;glued of 1 worth 40;part of 1;glued of 0 worth 0");
    Due.sentence("FEIGNED: as a PART, but 0 to an HEIR who KNOWS");
    Due.due("before", x.brings(0, 0, 1), 30);
    x.knows(0, true);
    Due.due("to who KNOWS", x.brings(0, 0, 1), 0);
    Due.due("to another one", x.brings(0, 1, 1), 10);
    x.knows(0, false);
    x.knows(3, true);
    Due.due("to who KNOWS no more", x.brings(0, 0, 1), 30);
    Due.due("to one of those not there, who KNOWS", x.brings(0, 3, 1), 0);
    Due.due("a PART isn't FEIGNED", x.brings(2, 3, 4), 10);

    Due.sentence("GLUED: as a FEIGNED one, and 5, if its THING has another PART in the SET");
    Due.due("alone", x.brings(1, 0, 2), 40);
    Due.due("with another", x.brings(1, 0, 2 | 4), 45);
    Due.due("with one of another THING", x.brings(1, 0, 2 | 1), 40);
    Due.due("known, alone", x.brings(1, 3, 2), 0);
    Due.due("known, with another", x.brings(1, 3, 2 | 4), 5);
    Due.due("worth 0, with another", x.brings(3, 0, 8 | 1), 5);
    Due.due("the FEIGNED one of its THING has no more by it", x.brings(0, 0, 8 | 1), 30);
  }

  private static void heirsAndOrder() {
    Due.sentence("HEIRS: how many there are (1 to 4; 2 at first)");
    Due.due("heirs at first", new HeirHalves().count(2), 2);
    Twin.range("heirs(n)", Twin::some, 1, 4, HeirHalves::heirs);

    Due.sentence("ORDER (0, 1, 2, 3 at first, as far as there are)");
    for (int n = 1; n <= 4; n++) {
      HeirHalves x = new HeirHalves();
      x.heirs(n);
      for (int i = 0; i < n; i++) {
        Due.due("ith of " + n, x.ith(i), i);
      }
      Due.due("ith behind them", x.ith(n), Due.BEYOND);
    }

    Due.sentence("one alone has it all");
    HeirHalves one = Due.estate("heirs 0;part of 0;part of 1;part of 2 worth 0");
    for (int set = 0; set < 8; set++) {
      Due.due("share(0, " + set + ")", one.share(0, set), set);
    }

    Due.sentence("Of an empty SET each has nothing");
    for (int n = 1; n <= 4; n++) {
      HeirHalves x = Due.estate("part of 0;part of 1");
      x.heirs(n);
      for (int heir = 0; heir < n; heir++) {
        Due.due("share of nothing", x.share(heir, 0), 0);
        Due.due("gets of nothing", x.gets(heir, 0), 0);
      }
    }
  }

  private static void halves() {
    Due.sentence("CUTS it into two halves (one may be empty)");
    HeirHalves x = Due.estate("part of 0 worth 9 9;part of 1 worth 7 7;part of 2 worth 5 5");
    Due.due("cut of one PART", x.cut(4), 4);
    Due.due("who has it", x.share(1, 4), 4);
    Due.due("who hasn't", x.share(0, 4), 0);
    Due.due("takes, BACK empty", x.takes(7, 7), 0);
    Due.due("left, BACK empty", x.left(7, 7), 0);

    Due.sentence("FRONT, that with the SET's least PART");
    Due.due("cut of 1 and 2: FRONT has PART 1", x.cut(6), 2);
    Due.due("takes of PART 1 | PART 2", x.takes(6, 2), 0);
    Due.due("takes, FRONT without it", x.takes(6, 4), Due.BEYOND);

    Due.sentence("the second one takes that half of which it gets more VALUE (FRONT, if it is alike)");
    HeirHalves y = Due.estate("part of 0 worth 40 6;part of 1 worth 30 4;part of 2 worth 20 2");
    Due.due("takes, alike", y.takes(7, 1), 0);
    Due.due("left, alike", y.left(7, 1), 50);
    y.change(2, 5, 3);
    Due.due("takes, BACK one dearer", y.takes(7, 1), 1);
    Due.due("left, BACK one dearer", y.left(7, 1), 40);
    y.change(2, 5, 1);
    Due.due("takes, FRONT one dearer", y.takes(7, 1), 0);

    Due.sentence("more VALUE, when it is DIVIDED among it and those behind");
    // HEIR 1 has nothing of one PART, which goes on to HEIR 2; of two it has one.
    HeirHalves three = Due.estate("heirs 0 1 2;part of 0 worth 8 99 1;part of 1 worth 5 1 1;part of 2 worth 5 1 1");
    Due.due("takes", three.takes(7, 1), 1);
    Due.due("left", three.left(7, 1), 8);
    Due.due("takes FRONT of two PARTS", three.takes(7, 3), 0);
    Due.due("left of that", three.left(7, 3), 5);
    for (int n = 2; n <= 4; n++) {
      HeirHalves z = Due.estate("part of 0");
      z.heirs(n);
      Due.due("one PART goes to the last of " + n, z.share(n - 1, 1), 1);
    }
  }

  private static void alikeWays() {
    Due.sentence("It CUTS so that it has most VALUE then; of several ways with the least FRONT as a number");
    HeirHalves x = Due.estate("part of 0 worth 1 1;part of 1 worth 4 3;part of 2 worth 4 3");
    // 1 | 2 3 leaves 1; 1 2 | 3 and 1 3 | 2 leave 4; all leaves 0.
    Due.due("left of PART 0", x.left(7, 1), 1);
    Due.due("left of 0 and 1", x.left(7, 3), 4);
    Due.due("left of 0 and 2", x.left(7, 5), 4);
    Due.due("cut", x.cut(7), 3);
    x.change(1, 4, 5);
    Due.due("cut, one more for the other way", x.cut(7), 5);
    x.change(0, 4, 6);
    Due.due("cut, one more for PART 0 alone", x.cut(7), 1);
    HeirHalves none = Due.estate("part of 0 worth 0 0;part of 1 worth 0 0;part of 2 worth 0 0;part of 0 worth 0 0");
    Due.due("cut, all alike", none.cut(15), 1);
    Due.due("cut, all alike, of a lesser SET", none.cut(14), 2);
  }

  private static void spotsAndSheets() {
    Due.sentence("SPOTS 0 to 9 hold a PART or nothing (at first)");
    Twin.range("hold(spot, 0)", Twin::some, 0, 9, (y, v) -> y.hold(v, 0));
    for (int spot = 0; spot < 10; spot++) {
      Due.due("as", new HeirHalves().as(spot, 0), Due.MISSING);
    }

    Due.sentence("SHEETS 0 to 3 ..., or MISSING (at first)");
    Twin.range("sheet(s, 8, 1)", Twin::some, 0, 3, (y, v) -> y.sheet(v, 8, 1));
    for (int s = 0; s < 4; s++) {
      Due.due("judge", new HeirHalves().judge(s), Due.MISSING);
    }

    Due.sentence("rows of at most 40 numbers");
    HeirHalves x = new HeirHalves();
    Due.due("40", x.sheet(0, 8, 40), 40);
    Due.due("the last", x.write(0, 39, 1), 1);
    Due.due("one behind it", x.write(0, 40, 1), Due.BEYOND);
    Due.due("41", x.sheet(0, 8, 41), Due.BEYOND);

    Due.sentence("numbers of 8, 16 or 32 bits (told with their sign)");
    for (int bits = -1; bits < 66; bits++) {
      boolean is = bits == 0 || bits == 8 || bits == 16 || bits == 32;
      Due.due("sheet(1, " + bits + ", 1)", x.sheet(1, bits, 1), !is ? Due.BEYOND : bits == 0 ? 0 : 1);
    }
    widths();
  }

  private static void manyCalls() {
    Due.sentence("An object is used for at most 512 calls");
    HeirHalves x = new HeirHalves();
    int calls = 0;
    for (int p = 0; p < 9; p++) {
      x.part(p % 7, p % 5);
      calls++;
    }
    x.heirs(4);
    calls++;
    while (calls < 510) {
      x.gossip(12);
      x.fair();
      calls += 2;
    }
    Due.due("findings, the 511th call", x.status(-1), 0);
    Due.due("ith(3), the 512th call", x.ith(3), 3);
  }

  /** What comes of a number in so many bits, by way of a WORTH, which is 0 to 99. */
  private static void widths() {
    int[][] dues = {{8, 99, 99}, {8, 256 + 99, 99}, {8, -157, 99}, {8, 128, -1}, {8, 255, -1}, {8, 256, 0}, {8, 0x7fffff00, 0},
        {16, 256 + 99, -1}, {16, 65536 + 99, 99}, {16, 65535, -1}, {16, 32768, -1}, {16, 65536, 0}, {16, 256, -1},
        {32, 65536 + 99, -1}, {32, 65536, -1}, {32, Integer.MIN_VALUE, -1}, {32, Integer.MAX_VALUE, -1}, {32, 99, 99}};
    for (int[] d : dues) {
      HeirHalves x = Due.estate("part of 0");
      Twin.sheet(x, 0, d[0], d[1]);
      Due.due(d[1] + " in " + d[0] + " bits comes", x.load(0, 0), d[2] < 0 ? 0 : 1);
      Due.due(d[1] + " in " + d[0] + " bits", x.of(0, 4), d[2] < 0 ? 10 : d[2]);
    }
  }
}
