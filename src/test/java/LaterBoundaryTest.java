/** Promises 29 to 35 and 39 to 50: each sentence that names a boundary case, by itself. */
final class LaterBoundaryTest {
  public static void main(String[] args) {
    joins();
    rows();
    row();
    years();
    ahead();
    gossip();
    seed();
    hold();
    as();
    sheet();
    write();
    copy();
    load();
    judge();
    image();
    undo();
    tear();
    count();
    status();
    Due.end("LaterBoundaryTest");
  }

  private static HeirHalves none() {
    return new HeirHalves();
  }

  /** 9 PARTS of THING 3, all joined. */
  private static HeirHalves nine() {
    HeirHalves x = new HeirHalves();
    for (int p = 0; p < 9; p++) {
      x.part(0, 3);
    }
    return x;
  }

  private static void joins() {
    Due.sentence("29: they are alike, and one and the other are of one THING");
    HeirHalves x = Due.estate("part of 0 edges 1 9;part of 0 edges 9 0;part of 1 edges 9 1");
    Due.due("alike", x.joins(0, 1), 1);
    Due.due("not alike", x.joins(1, 0), 0);
    Due.due("alike, but of two THINGS", x.joins(0, 2), 0);
    x.change(1, 2, 8);
    Due.due("alike no more", x.joins(0, 1), 0);

    Due.sentence("29: BEYOND");
    Twin.range("joins(one, 2)", Twin::some, 0, 1, (y, v) -> y.joins(v, 2));
    Twin.refused("joins(3, 2)", Due.BEYOND, Twin::some, y -> y.joins(3, 2));
    Twin.range("joins(0, other)", Twin::some, 1, 2, (y, v) -> y.joins(0, v));
    Twin.refused("joins(0, 1) without PARTS", Due.BEYOND, LaterBoundaryTest::none, y -> y.joins(0, 1));

    Due.sentence("29: BEYOND: also one and the same");
    for (int part = 0; part < 3; part++) {
      int same = part;
      Twin.refused("joins(" + part + ", " + part + ")", Due.BEYOND, Twin::some, y -> y.joins(same, same));
    }
  }

  private static void rows() {
    Due.sentence("30: In how many rows all PARTS of a THING can lie, each joined to the next");
    HeirHalves x = Due.estate("part of 0 edges 1 2;part of 0 edges 3 4;part of 1 edges 5 6");
    Due.due("none of two", x.rows(0), 0);
    Due.due("one PART lies by itself", x.rows(1), 1);
    x.change(0, 3, 3);
    Due.due("one", x.rows(0), 1);
    x.change(1, 3, 1);
    Due.due("both ways round", x.rows(0), 2);
    x.change(2, 1, 0);
    Due.due("none with a third one that none joins", x.rows(0), 0);
    Due.due("all of 9 joined", nine().rows(3), 362880);

    Due.sentence("30: BEYOND");
    Twin.range("rows(thing)", LaterBoundaryTest::eachThing, 0, 4, HeirHalves::rows);

    Due.sentence("30: NONE: it has no PARTS");
    Twin.refused("rows(1)", Due.NONE, Twin::some, y -> y.rows(1));
    Twin.refused("rows(0) without PARTS", Due.NONE, LaterBoundaryTest::none, y -> y.rows(0));
  }

  private static HeirHalves eachThing() {
    HeirHalves x = new HeirHalves();
    for (int p = 0; p < 9; p++) {
      x.part(0, p % 5);
    }
    return x;
  }

  private static void row() {
    Due.sentence("31: The first such row by numbers");
    HeirHalves x = Due.estate("part of 2 edges 1 2;part of 2 edges 2 1;part of 2 edges 1 2;part of 0");
    // 0 1 2 and 2 1 0.
    int[] first = {0, 1, 2};
    for (int i = 0; i < 3; i++) {
      Due.due("row(2, " + i + ")", x.row(2, i), first[i]);
    }
    x.change(0, 3, 9);
    int[] other = {2, 1, 0};
    for (int i = 0; i < 3; i++) {
      Due.due("row(2, " + i + "), the other one", x.row(2, i), other[i]);
    }
    for (int i = 0; i < 9; i++) {
      Due.due("row of 9", nine().row(3, i), i);
    }

    HeirHalves end = Due.estate("part of 0 edges 9 2;part of 0 edges 3 2;part of 0 edges 2 3");
    int[] only = {0, 2, 1};
    for (int i = 0; i < 3; i++) {
      Due.due("row(0, " + i + "), 1 isn't joined to 0", end.row(0, i), only[i]);
    }

    Due.sentence("31: BEYOND: thing, i (0 to 8)");
    Twin.range("row(thing, 0)", LaterBoundaryTest::eachThing, 0, 4, (y, v) -> y.row(v, 0));
    Twin.range("row(3, i)", LaterBoundaryTest::nine, 0, 8, (y, v) -> y.row(3, v));

    Due.sentence("31: NONE: there is none");
    Twin.refused("row(0, 0) of two that don't join", Due.NONE, () -> Due.estate("part of 0 edges 1 2;part of 0 edges 1 2"),
        y -> y.row(0, 0));
    Twin.refused("row(4, 0) of no PARTS", Due.NONE, Twin::some, y -> y.row(4, 0));
    Twin.refused("row(4, 8) of no PARTS", Due.NONE, Twin::some, y -> y.row(4, 8));

    Due.sentence("31: NONE: or not so many");
    Due.due("row(2, 0) of one PART", Twin.some().row(2, 0), 1);
    Twin.refused("row(2, 1) of one PART", Due.NONE, Twin::some, y -> y.row(2, 1));
    Twin.refused("row(0, 2) of two PARTS", Due.NONE, LaterBoundaryTest::eachThing, y -> y.row(0, 2));

    Due.sentence("31: BEYOND. NONE: in this order");
    Twin.refused("row(4, 9) of no PARTS", Due.BEYOND, Twin::some, y -> y.row(4, 9));
    Twin.refused("row(5, 0) without PARTS", Due.BEYOND, LaterBoundaryTest::none, y -> y.row(5, 0));
  }

  /** YEAR is 79, or more by what is told. */
  private static HeirHalves aged(int more) {
    HeirHalves x = Due.estate("living of 0 worth 99 90;living of 1 worth 95 94");
    for (int year = 0; year < 60; year += 20) {
      x.years(20);
    }
    x.years(19);
    if (more > 0) {
      x.years(more);
    }
    return x;
  }

  private static void years() {
    Due.sentence("32: n YEARS go (1 to 20)");
    Twin.range("years(n)", () -> aged(0), 1, 20, HeirHalves::years);
    HeirHalves x = aged(0);
    Due.due("VALUE of all PARTS to dearest() then", x.years(1), 19 + 15);
    Due.due("YEAR", x.count(0), 80);
    Due.due("without PARTS", none().years(20), 0);

    Due.sentence("32: STATE: YEAR would be above 99");
    HeirHalves just = aged(0);
    Due.due("to 99", just.years(20), 0);
    Due.due("YEAR 99", just.count(0), 99);
    Twin.refused("years(20) from 80", Due.STATE, () -> aged(1), y -> y.years(20));
    Twin.refused("years(1) from 99", Due.STATE, () -> aged(20), y -> y.years(1));

    Due.sentence("32: BEYOND. STATE: in this order");
    Twin.refused("years(21) from 99", Due.BEYOND, () -> aged(20), y -> y.years(21));
    Twin.refused("years(0) from 99", Due.BEYOND, () -> aged(20), y -> y.years(0));
  }

  private static void ahead() {
    Due.sentence("33: behind n YEARS (0 to 20)");
    Twin.range("ahead(0, n)", () -> aged(0), 0, 20, (y, v) -> y.ahead(0, v));
    HeirHalves x = aged(0);
    for (int n = 0; n < 20; n++) {
      int then = x.ahead(0, n);
      HeirHalves y = aged(n);
      Due.due("ahead(0, " + n + ")", then, y.gets(0, 3));
    }

    Due.sentence("33: nothing changes");
    Twin.unchanged("ahead(1, 20)", () -> aged(0), y -> y.ahead(1, 20));
    Twin.unchanged("ahead(0, 9)", Twin::some, y -> y.ahead(0, 9));
    HeirHalves kept = aged(0);
    int gets = kept.gets(1, 3);
    kept.ahead(1, 20);
    Due.due("gets is as it was", kept.gets(1, 3), gets);

    Due.sentence("33: BEYOND: HEIR");
    Twin.range("ahead(heir, 0)", Twin::some, 0, 2, (y, v) -> y.ahead(v, 0));
    Twin.range("ahead(heir, 0) of one", Twin::alone, 0, 0, (y, v) -> y.ahead(v, 0));

    Due.sentence("33: STATE likewise");
    Due.due("to 99", aged(0).ahead(0, 20), 0);
    Due.due("0 YEARS from 99", aged(20).ahead(0, 0), 0);
    Twin.refused("ahead(0, 20) from 80", Due.STATE, () -> aged(1), y -> y.ahead(0, 20));
    Twin.refused("ahead(0, 1) from 99", Due.STATE, () -> aged(20), y -> y.ahead(0, 1));
    Twin.refused("ahead(0, 21) from 99: BEYOND before it", Due.BEYOND, () -> aged(20), y -> y.ahead(0, 21));
    Twin.refused("ahead(2, 20) from 99: BEYOND before it", Due.BEYOND, () -> aged(20), y -> y.ahead(2, 20));
  }

  private static void gossip() {
    Due.sentence("34: n times (1 to 12) by draws");
    Twin.range("gossip(n)", Twin::some, 1, 12, HeirHalves::gossip);
    HeirHalves once = Due.estate("part of 0;part of 0;part of 0");
    HeirHalves twelve = Due.estate("part of 0;part of 0;part of 0");
    int last = 0;
    for (int n = 0; n < 12; n++) {
      last = once.gossip(1);
    }
    Due.due("12 at once", twelve.gossip(12), last);
    Due.due("z, 3 draws each", twelve.count(6), once.count(6));

    Due.sentence("34: each makes it z * 1103515245 + 12345 (an int), and gives z >>> 8");
    int[] seeds = {0, 1, -1, Integer.MAX_VALUE, Integer.MIN_VALUE, -1000001, 77777777};
    for (int seed : seeds) {
      oneDraw(seed);
    }

    Due.sentence("34: STATE: there are none");
    Twin.refused("gossip(1) without PARTS", Due.STATE, LaterBoundaryTest::none, y -> y.gossip(1));

    Due.sentence("34: BEYOND. STATE: in this order");
    Twin.refused("gossip(13) without PARTS", Due.BEYOND, LaterBoundaryTest::none, y -> y.gossip(13));
    Twin.refused("gossip(0) without PARTS", Due.BEYOND, LaterBoundaryTest::none, y -> y.gossip(0));
  }

  private static void oneDraw(int seed) {
    long z = seed;
    long[] drawn = new long[3];
    for (int i = 0; i < 3; i++) {
      z = (z * 1103515245L + 12345L) & 0xffffffffL;
      drawn[i] = z >> 8;
    }
    HeirHalves x = Due.estate("part of 0;part of 0;part of 0;part of 0;part of 0");
    x.seed(seed);
    int part = (int) (drawn[0] % 5);
    int heir = (int) (drawn[1] % 4);
    int worth = (int) (drawn[2] % 100);
    Due.due("gossip from z " + seed, x.gossip(1), heir == 0 ? 40 + worth : 50);
    Due.due("z then", x.count(6), (int) z);
    for (int p = 0; p < 5; p++) {
      for (int h = 0; h < 4; h++) {
        Due.due("WORTH of " + p + " to " + h, x.of(p, 4 + h), p == part && h == heir ? worth : 10);
      }
    }
  }

  private static void seed() {
    Due.sentence("34: (z is told, 1 at first)");
    Due.due("count(6)", none().count(6), 1);
    Due.sentence("35: z becomes v: what it was");
    HeirHalves x = none();
    Due.due("seed(0)", x.seed(0), 1);
    Due.due("seed(2147483647)", x.seed(Integer.MAX_VALUE), 0);
    Due.due("seed(-2147483648)", x.seed(Integer.MIN_VALUE), Integer.MAX_VALUE);
    Due.due("seed(-1000004)", x.seed(-1000004), Integer.MIN_VALUE);
    Due.due("seed(1)", x.seed(1), -1000004);
    Due.due("no finding", x.status(-1), 0);
  }

  private static void hold() {
    Due.sentence("39: A SPOT holds a PART, or nothing (-1): 1");
    HeirHalves x = Twin.some();
    Due.due("count(7)", x.count(7), 2);
    Due.due("nothing, as before", x.hold(0, -1), 1);
    Due.due("a PART", x.hold(0, 2), 1);
    Due.due("another one", x.hold(0, 1), 1);
    Due.due("as", x.as(0, 0), 1);
    Due.due("count(7)", x.count(7), 3);
    Due.due("nothing", x.hold(0, -1), 1);
    Due.due("count(7)", x.count(7), 2);
    Due.due("nothing without PARTS", none().hold(9, -1), 1);

    Due.sentence("39: BEYOND");
    Twin.range("hold(spot, 0)", Twin::some, 0, 9, (y, v) -> y.hold(v, 0));
    Twin.range("hold(spot, -1)", Twin::some, 0, 9, (y, v) -> y.hold(v, -1));
    Twin.range("hold(0, part)", Twin::some, -1, 2, (y, v) -> y.hold(0, v));
    Twin.range("hold(0, part) of 9", Twin::full, -1, 8, (y, v) -> y.hold(0, v));
    Twin.refused("hold(0, 0) without PARTS", Due.BEYOND, LaterBoundaryTest::none, y -> y.hold(0, 0));
  }

  private static void as() {
    Due.sentence("40: BEYOND");
    Twin.range("as(spot, 0)", LaterBoundaryTest::held, 0, 9, (y, v) -> y.as(v, 0));
    int[] noKinds = {7, -1, Integer.MAX_VALUE, Integer.MIN_VALUE};
    for (int kind : noKinds) {
      Twin.refused("as(6, " + kind + ")", Due.BEYOND, LaterBoundaryTest::held, y -> y.as(6, kind));
    }

    Due.sentence("40: MISSING: it holds nothing");
    Twin.refused("as(0, 0)", Due.MISSING, Twin::some, y -> y.as(0, 0));
    Twin.refused("as(0, 6)", Due.MISSING, Twin::some, y -> y.as(0, 6));

    Due.sentence("40: KIND: it isn't of that kind, nor of one under it");
    int[][] above = {{0}, {0, 1}, {0, 2}, {0, 1, 3}, {0, 2, 4}, {0, 5}, {0, 5, 6}};
    for (int is = 0; is < 7; is++) {
      for (int kind = 0; kind < 7; kind++) {
        boolean under = false;
        for (int one : above[is]) {
          under |= one == kind;
        }
        Due.due("a " + is + " as a " + kind, held().as(is, kind), under ? is : Due.KIND);
      }
    }
    Twin.refused("as(0, 1)", Due.KIND, LaterBoundaryTest::held, y -> y.as(0, 1));

    Due.sentence("40: BEYOND. MISSING. KIND: in this order");
    Twin.refused("as(0, 7) of nothing", Due.BEYOND, Twin::some, y -> y.as(0, 7));
    Twin.refused("as(0, -1) of nothing", Due.BEYOND, Twin::some, y -> y.as(0, -1));
    Twin.refused("as(10, 0)", Due.BEYOND, Twin::some, y -> y.as(10, 0));
  }

  /** SPOTS 0 to 6 hold PARTS 0 to 6, each of the kind of its number; those behind, PART 0. */
  private static HeirHalves held() {
    HeirHalves x = new HeirHalves();
    for (int spot = 0; spot < 10; spot++) {
      if (spot < 7) {
        x.part(spot, 0);
      }
      x.hold(spot, spot < 7 ? spot : 0);
    }
    return x;
  }

  private static void sheet() {
    Due.sentence("41: A sheet has n numbers, all 0");
    HeirHalves x = Due.estate("part of 0;part of 0");
    Twin.sheet(x, 0, 8, 7, 8);
    Due.due("made anew", x.sheet(0, 8, 2), 2);
    Due.due("load", x.load(0, 0), 2);
    Due.due("the first", x.of(0, 4), 0);
    Due.due("the second", x.of(1, 4), 0);
    Due.due("of none", x.sheet(0, 32, 0), 0);
    Due.due("of none it isn't MISSING", x.write(0, 0, 1), Due.BEYOND);
    Due.due("of 40", x.sheet(0, 16, 40), 40);
    anew(x);

    Due.sentence("41: bits 0: it is MISSING: n (0 if it is MISSING)");
    Due.due("sheet(0, 0, 40)", x.sheet(0, 0, 40), 0);
    Due.due("write", x.write(0, 0, 1), Due.MISSING);
    Due.due("sheet(0, 0, 0), MISSING already", x.sheet(0, 0, 0), 0);
    Due.due("load", x.load(0, 0), Due.MISSING);

    Due.sentence("41: BEYOND: no such sheet, other bits");
    Twin.range("sheet(s, 8, 1)", Twin::some, 0, 3, (y, v) -> y.sheet(v, 8, 1));
    int[] others = {-8, -1, 1, 7, 9, 15, 17, 24, 31, 33, 64, Integer.MIN_VALUE, Integer.MAX_VALUE};
    for (int bits : others) {
      Twin.refused("sheet(0, " + bits + ", 1)", Due.BEYOND, Twin::some, y -> y.sheet(0, bits, 1));
    }

    Due.sentence("41: SIZE: n is below 0 (also with bits 0)");
    int[] widths = {0, 8, 16, 32};
    for (int bits : widths) {
      Twin.refused("sheet(0, " + bits + ", -1)", Due.SIZE, Twin::some, y -> y.sheet(0, bits, -1));
      Twin.refused("sheet(0, " + bits + ", least)", Due.SIZE, Twin::some, y -> y.sheet(0, bits, Integer.MIN_VALUE));
    }

    Due.sentence("41: BEYOND: n is above 40 (also with bits 0)");
    for (int bits : widths) {
      Twin.refused("sheet(0, " + bits + ", 41)", Due.BEYOND, Twin::some, y -> y.sheet(0, bits, 41));
      Twin.refused("sheet(0, " + bits + ", most)", Due.BEYOND, Twin::some, y -> y.sheet(0, bits, Integer.MAX_VALUE));
    }

    Due.sentence("41: BEYOND. SIZE: in this order");
    Twin.refused("sheet(4, 8, -1)", Due.BEYOND, Twin::some, y -> y.sheet(4, 8, -1));
    Twin.refused("sheet(-1, 0, -1)", Due.BEYOND, Twin::some, y -> y.sheet(-1, 0, -1));
    Twin.refused("sheet(0, 9, -1)", Due.BEYOND, Twin::some, y -> y.sheet(0, 9, -1));
  }

  /** Each of 40 numbers is 0, whatever it was. */
  private static void anew(HeirHalves x) {
    for (int i = 0; i < 40; i++) {
      x.write(0, i, 5);
    }
    x.sheet(0, 16, 40);
    x.sheet(1, 16, 1);
    for (int i = 0; i < 40; i++) {
      x.write(1, 0, 9);
      x.copy(0, i, 1, 0, 1);
      x.load(1, 0);
      Due.due("number " + i + ", made anew", x.of(0, 4), 0);
    }
  }

  private static void write() {
    Due.sentence("42: Number i of a sheet becomes v (its lowest bits): 1");
    HeirHalves x = Due.estate("part of 0;part of 0;part of 0");
    Twin.sheet(x, 3, 8, 1, 2, 3);
    Due.due("write", x.write(3, 1, 0xffffff63), 1);
    Due.due("load", x.load(3, 0), 3);
    int[] then = {1, 99, 3};
    for (int p = 0; p < 3; p++) {
      Due.due("number " + p, x.of(p, 4), then[p]);
    }

    Due.sentence("42: BEYOND: no such sheet. MISSING. BEYOND: no such number");
    Twin.range("write(s, 0, 1)", LaterBoundaryTest::sheets, 0, 3, (y, v) -> y.write(v, 0, 1));
    Twin.refused("write(3, 0, 1)", Due.MISSING, Twin::some, y -> y.write(3, 0, 1));
    Twin.range("write(0, i, 1)", Twin::some, 0, 4, (y, v) -> y.write(0, v, 1));
    Twin.range("write(0, i, 1) of 40", LaterBoundaryTest::sheets, 0, 39, (y, v) -> y.write(0, v, 1));

    Due.sentence("42: MISSING before BEYOND of the number");
    Twin.refused("write(3, -1, 1)", Due.MISSING, Twin::some, y -> y.write(3, -1, 1));
    Twin.refused("write(3, 40, 1)", Due.MISSING, Twin::some, y -> y.write(3, 40, 1));
  }

  /** All SHEETS have 40 numbers of 8 bits. */
  private static HeirHalves sheets() {
    HeirHalves x = Due.estate("part of 0");
    for (int s = 0; s < 4; s++) {
      x.sheet(s, 8, 40);
    }
    return x;
  }

  private static void copy() {
    Due.sentence("43: BEYOND: no such sheet (either)");
    Twin.range("copy(s, 0, 0, 0, 1)", LaterBoundaryTest::sheets, 0, 3, (y, v) -> y.copy(v, 0, 0, 0, 1));
    Twin.range("copy(0, 0, t, 0, 1)", LaterBoundaryTest::sheets, 0, 3, (y, v) -> y.copy(0, 0, v, 0, 1));

    Due.sentence("43: MISSING: one is");
    Twin.refused("copy(3, 0, 0, 0, 1)", Due.MISSING, Twin::some, y -> y.copy(3, 0, 0, 0, 1));
    Twin.refused("copy(0, 0, 3, 0, 1)", Due.MISSING, Twin::some, y -> y.copy(0, 0, 3, 0, 1));
    Twin.refused("copy(3, 0, 3, 0, 0)", Due.MISSING, Twin::some, y -> y.copy(3, 0, 3, 0, 0));

    Due.sentence("43: KIND: they are not of as many bits");
    Twin.refused("copy(0, 0, 1, 0, 1)", Due.KIND, Twin::some, y -> y.copy(0, 0, 1, 0, 1));
    Twin.refused("copy(1, 0, 2, 0, 0)", Due.KIND, Twin::some, y -> y.copy(1, 0, 2, 0, 0));

    Due.sentence("43: BEYOND: one has not so many");
    Due.due("all 4 of 5 to all 4", Twin.some().copy(0, 1, 2, 0, 4), 4);
    Due.due("all 4 to the last 4 of 5", Twin.some().copy(2, 0, 0, 1, 4), 4);
    Due.due("none, from behind the last", Twin.some().copy(0, 5, 2, 4, 0), 0);
    Twin.refused("one too many of s", Due.BEYOND, Twin::some, y -> y.copy(0, 2, 0, 0, 4));
    Twin.refused("one too many of t", Due.BEYOND, Twin::some, y -> y.copy(0, 0, 2, 0, 5));
    Twin.refused("one too far in t", Due.BEYOND, Twin::some, y -> y.copy(0, 0, 2, 1, 4));
    Twin.refused("from behind the last", Due.BEYOND, Twin::some, y -> y.copy(0, 5, 2, 0, 1));
    Twin.refused("to behind the last", Due.BEYOND, Twin::some, y -> y.copy(0, 0, 2, 4, 1));
    Twin.refused("most of all", Due.BEYOND, Twin::some, y -> y.copy(0, 1, 2, 1, Integer.MAX_VALUE));
    Twin.refused("from the most", Due.BEYOND, Twin::some, y -> y.copy(0, Integer.MAX_VALUE, 2, 0, 1));
    Twin.refused("to the most", Due.BEYOND, Twin::some, y -> y.copy(0, 0, 2, Integer.MAX_VALUE, 1));

    Due.sentence("43: BEYOND: or from, to or n is below 0");
    int[] below = {-1, Integer.MIN_VALUE};
    for (int v : below) {
      Twin.refused("from " + v, Due.BEYOND, Twin::some, y -> y.copy(0, v, 2, 0, 2));
      Twin.refused("to " + v, Due.BEYOND, Twin::some, y -> y.copy(0, 0, 2, v, 2));
      Twin.refused("n " + v, Due.BEYOND, Twin::some, y -> y.copy(0, 2, 2, 2, v));
    }

    Due.sentence("43: BEYOND. MISSING. KIND. BEYOND: in this order");
    Twin.refused("no such t, s MISSING", Due.BEYOND, Twin::some, y -> y.copy(3, 0, 4, 0, 1));
    Twin.refused("no such s, t MISSING", Due.BEYOND, Twin::some, y -> y.copy(-1, 0, 3, 0, 1));
    Twin.refused("one MISSING, other bits", Due.MISSING, Twin::some, y -> y.copy(1, 0, 3, 0, 1));
    Twin.refused("MISSING, n below 0", Due.MISSING, Twin::some, y -> y.copy(3, 0, 0, 0, -1));
    Twin.refused("other bits, n below 0", Due.KIND, Twin::some, y -> y.copy(0, 0, 1, 0, -1));
    Twin.refused("other bits, not so many", Due.KIND, Twin::some, y -> y.copy(0, 4, 1, 2, 9));

    Due.sentence("43: (as they all were): n");
    copied(0, 1, 4, 1, 1, 2, 3, 4);
    copied(1, 0, 4, 2, 3, 4, 5, 5);
    copied(2, 2, 3, 1, 2, 3, 4, 5);
    copied(0, 2, 3, 1, 2, 1, 2, 3);
    copied(3, 0, 0, 1, 2, 3, 4, 5);
    copied(0, 4, 1, 1, 2, 3, 4, 1);
  }

  /** Of 1 2 3 4 5, copied within their own sheet. */
  private static void copied(int from, int to, int n, int... then) {
    HeirHalves x = Due.estate("part of 0;part of 0;part of 0;part of 0;part of 0");
    Twin.sheet(x, 0, 16, 1, 2, 3, 4, 5);
    Due.due("copy", x.copy(0, from, 0, to, n), n);
    x.load(0, 1);
    for (int p = 0; p < 5; p++) {
      Due.due("number " + p + ", copied from " + from + " to " + to, x.of(p, 5), then[p]);
    }
  }

  private static void load() {
    Due.sentence("44: It ends at the first that isn't 0 to 99");
    loaded(2, 0, 99, 100, 5);
    loaded(2, 99, 0, -1, 5);
    loaded(0, 100, 1, 2);
    loaded(0, -1, 1, 2);
    loaded(3, 1, 2, 3);

    Due.sentence("44: or for which there is no PART");
    loaded(4, 1, 2, 3, 4, 5);
    loaded(4, 1, 2, 3, 4, 100);
    Due.due("of no numbers", emptySheet().load(0, 0), 0);
    HeirHalves none = none();
    none.sheet(0, 8, 3);
    Due.due("without PARTS", none.load(0, 0), 0);
    HeirHalves nine = nine();
    nine.sheet(0, 32, 40);
    Due.due("9 PARTS", nine.load(0, 3), 9);

    Due.sentence("44: to an HEIR (0 to 3): BEYOND: heir");
    Twin.range("load(0, heir)", Twin::alone, 0, 3, (y, v) -> y.load(0, v));

    Due.sentence("44: BEYOND: no such sheet. MISSING");
    Twin.range("load(s, 0)", LaterBoundaryTest::sheets, 0, 3, (y, v) -> y.load(v, 0));
    Twin.refused("load(3, 0)", Due.MISSING, Twin::some, y -> y.load(3, 0));

    Due.sentence("44: BEYOND: no such sheet. MISSING. BEYOND: heir: in this order");
    Twin.refused("load(3, 4)", Due.MISSING, Twin::some, y -> y.load(3, 4));
    Twin.refused("load(3, -1)", Due.MISSING, Twin::some, y -> y.load(3, -1));
    Twin.refused("load(4, 4)", Due.BEYOND, Twin::some, y -> y.load(4, 4));
  }

  private static HeirHalves emptySheet() {
    HeirHalves x = Due.estate("part of 0");
    x.sheet(0, 8, 0);
    return x;
  }

  /** How many of the numbers come to 4 PARTS. */
  private static void loaded(int came, int... numbers) {
    HeirHalves x = Due.estate("part of 0;part of 1;part of 2;part of 3");
    Twin.sheet(x, 2, 16, numbers);
    Due.due("load", x.load(2, 2), came);
    for (int p = 0; p < 4; p++) {
      Due.due("WORTH of " + p, x.of(p, 6), p < came ? numbers[p] : 10);
      Due.due("WORTH of " + p + " to another HEIR", x.of(p, 5), 10);
    }
  }

  private static void judge() {
    Due.sentence("45: 0 if all are, and as many");
    Due.due("all", judged(1, 1, 0), 0);
    HeirHalves none = none();
    none.sheet(0, 8, 0);
    Due.due("no numbers, no PARTS", none.judge(0), 0);
    none.sheet(0, 8, 1);
    Due.due("a number, no PARTS", none.judge(0), 1);

    Due.sentence("45: else 1 and how many are right, from the first on");
    Due.due("none", judged(0, 1, 0), 1);
    Due.due("the first alone", judged(1, 0, 0), 2);
    Due.due("two", judged(1, 1, 1), 3);
    Due.due("none told", judged(), 1);
    Due.due("one too few", judged(1, 1), 3);
    Due.due("one too many", judged(1, 1, 0, 0), 4);
    Due.due("no HEIR", judged(1, -1, 0), 2);

    Due.sentence("45: BEYOND: no such sheet. MISSING");
    Twin.range("judge(s)", LaterBoundaryTest::sheets, 0, 3, HeirHalves::judge);
    Twin.refused("judge(3)", Due.MISSING, Twin::some, y -> y.judge(3));
    Twin.unchanged("judge(0)", Twin::some, y -> y.judge(0));
  }

  /** HEIR 1 has PARTS 0 and 1, HEIR 0 has PART 2. */
  private static int judged(int... numbers) {
    HeirHalves x = Due.estate("part of 0 worth 5 3;part of 0 worth 4 2;part of 1 worth 8 5");
    Twin.sheet(x, 1, 32, numbers);
    return x.judge(1);
  }

  private static void image() {
    Due.sentence("46: All but THE TAPE and SHEETS is kept: 1");
    HeirHalves x = Twin.some();
    Due.due("image", x.image(), 1);
    Due.due("image again", x.image(), 1);
    x.seed(0);
    x.knows(0, true);
    x.heirs(4);
    x.years(9);
    x.hold(2, -1);
    x.hold(5, 0);
    x.part(0, 4);
    x.change(0, 1, 3);
    x.change(1, 5, 1);
    x.change(2, 2, 9);
    x.feed(0x3b, 1);
    x.sheet(0, 32, 1);
    x.sheet(3, 8, 1);
    x.undo();
    Due.due("z", x.count(6), 78);
    Due.due("who KNOW", x.count(4), 10);
    Due.due("HEIRS", x.count(2), 3);
    Due.due("ORDER", 100 * x.ith(0) + 10 * x.ith(1) + x.ith(2), 201);
    Due.due("YEAR", x.count(0), 90);
    Due.due("SPOT 2", x.as(2, 0), 2);
    Due.due("SPOT 5", x.as(5, 0), Due.MISSING);
    Due.due("SPOTS", x.count(7), 2);
    Due.due("PARTS", x.count(1), 3);
    Due.due("THING", x.of(0, 1), 0);
    Due.due("PARTS of THING 0", x.thing(0), 5);
    Due.due("PARTS of THING 3", x.thing(3), 0);
    Due.due("WORTH", x.of(1, 5), 97);
    Due.due("EDGE", x.of(2, 2), 5);
    Due.due("THE TAPE isn't kept", x.count(5), 8);
    Due.due("SHEETS aren't kept", x.copy(3, 0, 0, 0, 1), Due.KIND);
    Due.due("SHEETS aren't kept", x.judge(3) > 0 ? 1 : 0, 1);
  }

  private static void undo() {
    Due.sentence("47: It becomes what was kept latest (which stays): YEAR");
    HeirHalves x = Twin.some();
    Due.due("undo", x.undo(), 90);
    Due.due("z", x.count(6), 77);
    x.seed(5);
    x.years(9);
    Due.due("undo again", x.undo(), 90);
    Due.due("z", x.count(6), 77);
    x.years(1);
    x.image();
    x.years(1);
    Due.due("undo to the later one", x.undo(), 91);
    x.change(0, 4, 1);
    Due.due("what is kept isn't changed with it", x.undo() + x.of(0, 4), 91 + 50);

    Due.sentence("47: NONE: nothing is kept");
    Twin.refused("undo()", Due.NONE, LaterBoundaryTest::none, HeirHalves::undo);
    Twin.refused("undo() of all torn", Due.NONE, LaterBoundaryTest::torn, HeirHalves::undo);
  }

  private static HeirHalves torn() {
    HeirHalves x = Twin.some();
    x.tear();
    return x;
  }

  private static void tear() {
    Due.sentence("48: Nothing is kept: 1 if something was, else 0");
    HeirHalves x = Twin.some();
    Due.due("tear", x.tear(), 1);
    Due.due("tear again", x.tear(), 0);
    Due.due("all else is as it was", x.count(6), 78);
    x.image();
    Due.due("undo of a new image", x.undo(), 90);
    Due.due("z", x.count(6), 78);
    Due.due("tear", x.tear(), 1);
    Due.due("undo", x.undo(), Due.NONE);
    Due.due("tear of a new object", none().tear(), 0);
  }

  private static void count() {
    Due.sentence("49: 0 YEAR, .. 7 SPOTS that hold something");
    HeirHalves x = Twin.some();
    int[] counts = {90, 3, 3, 5, 10, 7, 78, 2};
    for (int what = 0; what < 8; what++) {
      Due.due("count(" + what + ")", x.count(what), counts[what]);
    }
    HeirHalves full = Twin.full();
    for (int spot = 0; spot < 10; spot++) {
      full.hold(spot, 3);
      full.knows(spot, true);
    }
    int[] most = {0, 9, 4, 31, 15, 120, 1, 10};
    for (int what = 0; what < 8; what++) {
      Due.due("count(" + what + ") of what is full", full.count(what), most[what]);
    }

    Due.sentence("49: BEYOND: another what");
    Twin.range("count(what)", Twin::some, 0, 7, HeirHalves::count);
  }

  private static void status() {
    Due.sentence("50: How many acts answered a finding ever: which -1: all, 0 to 6: BEYOND to SIZE");
    HeirHalves x = Twin.full();
    int[] none = {0, 0, 0, 0, 0, 0, 0, 0};
    told(x, none);
    x.ith(9);
    told(x, 1, 1, 0, 0, 0, 0, 0, 0);
    x.part(0, 0);
    told(x, 2, 1, 1, 0, 0, 0, 0, 0);
    x.hold(0, 0);
    x.as(0, 1);
    told(x, 3, 1, 1, 1, 0, 0, 0, 0);
    x.undo();
    told(x, 4, 1, 1, 1, 1, 0, 0, 0);
    x.brings(0, 0, 2);
    told(x, 5, 1, 1, 1, 1, 1, 0, 0);
    x.judge(0);
    told(x, 6, 1, 1, 1, 1, 1, 1, 0);
    x.sheet(0, 8, -1);
    told(x, 7, 1, 1, 1, 1, 1, 1, 1);
    x.judge(0);
    told(x, 8, 1, 1, 1, 1, 1, 2, 1);
    Due.due("a TEXT with a FAULT", x.text(), -121);
    x.seed(Due.BEYOND);
    x.count(6);
    x.seed(1);
    told(x, 8, 1, 1, 1, 1, 1, 2, 1);

    Due.sentence("50: (undo() takes none back)");
    HeirHalves y = none();
    y.ith(9);
    y.image();
    y.ith(9);
    y.undo();
    told(y, 2, 2, 0, 0, 0, 0, 0, 0);

    Due.sentence("50: BEYOND (counted from then on): another one");
    Twin.range("status(which)", Twin::some, -1, 6, HeirHalves::status);
    HeirHalves z = none();
    Due.due("status(7)", z.status(7), Due.BEYOND);
    Due.due("status(0) then", z.status(0), 1);
    Due.due("status(-2)", z.status(-2), Due.BEYOND);
    Due.due("status(-1) then", z.status(-1), 2);
  }

  private static void told(HeirHalves x, int... many) {
    for (int which = -1; which < 7; which++) {
      Due.due("status(" + which + ")", x.status(which), many[which + 1]);
    }
  }
}
