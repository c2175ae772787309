/** Each promise by itself: ordinary inputs, the edges that the document names, wrong inputs. */
final class PromisesTest {
  public static void main(String[] args) {
    newObject();
    parts();
    traits();
    heirsAndOrder();
    brings();
    values();
    dividing();
    orders();
    changesAfter();
    edges();
    years();
    gossip();
    tape();
    spots();
    sheets();
    loadAndJudge();
    images();
    statusCounts();
    Due.end("PromisesTest");
  }

  private static void newObject() {
    HeirHalves x = new HeirHalves();
    int[] first = {0, 0, 2, 0, 0, 0, 1, 0};
    for (int what = 0; what < first.length; what++) {
      Due.due("new: count(" + what + ")", x.count(what), first[what]);
    }
    for (int which = -1; which < 7; which++) {
      Due.due("new: status(" + which + ")", x.status(which), 0);
    }
    Due.due("new: ith(0)", x.ith(0), 0);
    Due.due("new: ith(1)", x.ith(1), 1);
    Due.due("new: undo", x.undo(), Due.NONE);
    Due.due("new: tear", x.tear(), 0);
    Due.due("new: wipe", x.wipe(), 0);
    for (int s = 0; s < 4; s++) {
      Due.due("new: write", x.write(s, 0, 0), Due.MISSING);
    }
    for (int spot = 0; spot < 10; spot++) {
      Due.due("new: as", x.as(spot, 0), Due.MISSING);
    }
    Due.due("new: seed", x.seed(5), 1);
  }

  private static void parts() {
    HeirHalves x = new HeirHalves();
    for (int p = 0; p < 9; p++) {
      Due.due("part", x.part(p % 7, p % 5), p);
      Due.due("count(1)", x.count(1), p + 1);
    }
    Due.due("10th part", x.part(0, 0), Due.FULL);
    Due.due("BEYOND before FULL", x.part(7, 0), Due.BEYOND);
    Due.due("part(-1, 0)", x.part(-1, 0), Due.BEYOND);
    Due.due("part(0, 5)", x.part(0, 5), Due.BEYOND);
    Due.due("part(0, -1)", x.part(0, -1), Due.BEYOND);
    Due.due("count(1)", x.count(1), 9);
    Due.due("thing(0)", x.thing(0), 1 | 32);
    Due.due("thing(4)", x.thing(4), 16);
    Due.due("thing(5)", x.thing(5), Due.BEYOND);
    Due.due("thing(-1)", x.thing(-1), Due.BEYOND);
    Due.due("count(3)", x.count(3), 31);
  }

  private static void traits() {
    HeirHalves x = new HeirHalves();
    x.part(3, 4);
    int[] first = {3, 4, 0, 0, 10, 10, 10, 10};
    int[] most = {6, 4, 9, 9, 99, 99, 99, 99};
    for (int what = 0; what < 8; what++) {
      Due.due("of(0, " + what + ")", x.of(0, what), first[what]);
      Due.due("change above", x.change(0, what, most[what] + 1), Due.BEYOND);
      Due.due("change below", x.change(0, what, -1), Due.BEYOND);
      Due.due("of, as it was", x.of(0, what), first[what]);
      Due.due("change", x.change(0, what, most[what]), first[what]);
      Due.due("of, changed", x.of(0, what), most[what]);
      Due.due("change to 0", x.change(0, what, 0), most[what]);
    }
    Due.due("of(0, 8)", x.of(0, 8), Due.BEYOND);
    Due.due("of(0, -1)", x.of(0, -1), Due.BEYOND);
    Due.due("of(1, 0)", x.of(1, 0), Due.BEYOND);
    Due.due("of(-1, 0)", x.of(-1, 0), Due.BEYOND);
    Due.due("change(1, 0, 0)", x.change(1, 0, 0), Due.BEYOND);
    Due.due("change(0, 8, 0)", x.change(0, 8, 0), Due.BEYOND);
    Due.due("change(0, -1, 0)", x.change(0, -1, 0), Due.BEYOND);
    x.change(0, 1, 2);
    Due.due("thing moved from", x.thing(0), 0);
    Due.due("thing moved to", x.thing(2), 1);
  }

  private static void heirsAndOrder() {
    HeirHalves x = new HeirHalves();
    Due.due("knows", x.knows(3, true), 0);
    Due.due("knows again", x.knows(3, true), 1);
    Due.due("knows another", x.knows(0, true), 0);
    Due.due("count(4)", x.count(4), 9);
    Due.due("knows no more", x.knows(3, false), 1);
    Due.due("count(4)", x.count(4), 1);
    Due.due("knows(4)", x.knows(4, true), Due.BEYOND);
    Due.due("knows(-1)", x.knows(-1, true), Due.BEYOND);
    Due.due("heirs(4)", x.heirs(4), 2);
    Due.due("turn", x.turn(0, 3), 3);
    Due.due("turn", x.turn(1, 2), 3);
    Due.due("turn alike", x.turn(2, 2), 3);
    int[] order = {3, 2, 1, 0};
    for (int i = 0; i < 4; i++) {
      Due.due("ith", x.ith(i), order[i]);
    }
    Due.due("turn(0, 4)", x.turn(0, 4), Due.BEYOND);
    Due.due("turn(4, 0)", x.turn(4, 0), Due.BEYOND);
    Due.due("turn(-1, 0)", x.turn(-1, 0), Due.BEYOND);
    Due.due("turn(0, -1)", x.turn(0, -1), Due.BEYOND);
    Due.due("heirs(5)", x.heirs(5), Due.BEYOND);
    Due.due("heirs(0)", x.heirs(0), Due.BEYOND);
    Due.due("ith, as it was", x.ith(0), 3);
    Due.due("heirs(3)", x.heirs(3), 4);
    Due.due("ith, anew", x.ith(0), 0);
    Due.due("ith(3)", x.ith(3), Due.BEYOND);
    Due.due("ith(-1)", x.ith(-1), Due.BEYOND);
  }

  private static void brings() {
    HeirHalves x = Due.estate("part of 0 worth 7;pair of 0 worth 8;whole of 0 worth 9;living of 1 worth 11",
        "hourly of 2 worth 15;feigned of 3 worth 20;glued of 3 worth 30;whole of 4 worth 40");
    int[][] dues = {
        {0, 1, 7}, {1, 2, 8}, {1, 3, 16}, {1, 10, 8}, {2, 4, 0}, {2, 6, 0}, {2, 7, 18}, {3, 8, 11},
        {4, 16, 15}, {4, 25, 15}, {4, 27, 7}, {5, 32, 20}, {6, 64, 30}, {6, 96, 35}, {7, 128, 40}, {7, 255, 40}};
    for (int[] d : dues) {
      Due.due("brings(" + d[0] + ", 0, " + d[1] + ")", x.brings(d[0], 0, d[1]), d[2]);
    }
    x.knows(0, true);
    Due.due("feigned, known", x.brings(5, 0, 32), 0);
    Due.due("feigned, not known to another", x.brings(5, 1, 32), 10);
    Due.due("glued, known", x.brings(6, 0, 64), 0);
    Due.due("glued, known, with another", x.brings(6, 0, 96), 5);
    x.years(12);
    Due.due("living, 0 at least", x.brings(3, 0, 8), 0);
    Due.due("hourly, less the years", x.brings(4, 0, 16), 3);
    Due.due("hourly, half, cut", x.brings(4, 0, 240), 1);
    Due.due("brings: STATE", x.brings(0, 0, 2), Due.STATE);
    Due.due("brings: no such set", x.brings(0, 0, 256), Due.BEYOND);
    Due.due("brings: no such set", x.brings(0, 0, -1), Due.BEYOND);
    Due.due("brings: no such heir", x.brings(0, 4, 1), Due.BEYOND);
    Due.due("brings: no such heir", x.brings(0, -1, 1), Due.BEYOND);
    Due.due("brings: no such part", x.brings(8, 0, 1), Due.BEYOND);
    Due.due("brings: no such part", x.brings(-1, 0, 1), Due.BEYOND);
  }

  private static void values() {
    HeirHalves x = Due.estate("heirs 0 1 2;part of 0 worth 5 6 6 90;pair of 1 worth 5;part of 1 worth 5 0");
    Due.due("value", x.value(0, 7), 20);
    Due.due("value", x.value(3, 7), 120);
    Due.due("value of nothing", x.value(0, 0), 0);
    Due.due("value: set", x.value(0, 8), Due.BEYOND);
    Due.due("value: set", x.value(0, -8), Due.BEYOND);
    Due.due("value: heir", x.value(4, 0), Due.BEYOND);
    Due.due("value: heir", x.value(-1, 0), Due.BEYOND);
    Due.due("dearest, the least of like", x.dearest(1), 1);
    Due.due("dearest of nothing", x.dearest(0), 0);
    x.heirs(4);
    Due.due("dearest", x.dearest(1), 3);
    Due.due("dearest: set", x.dearest(8), Due.BEYOND);
    Due.due("best, the least of like", x.best(0, 1), 1);
    Due.due("best together", x.best(0, 2), 6);
    Due.due("best of all", x.best(0, 3), 7);
    Due.due("best of none", x.best(0, 0), 0);
    Due.due("best: too many", x.best(0, 4), Due.NONE);
    Due.due("best: too many", x.best(0, 9), Due.NONE);
    Due.due("best: n", x.best(0, 10), Due.BEYOND);
    Due.due("best: n", x.best(0, -1), Due.BEYOND);
    Due.due("best: heir", x.best(4, 9), Due.BEYOND);
    Due.due("best: heir", x.best(-1, 0), Due.BEYOND);
  }

  private static void dividing() {
    // Heir 0 would have 9 of 0 and 1; heir 1 thinks 2 alone as good as both: FRONT, if it is alike.
    HeirHalves x = Due.estate("part of 0 worth 5 3;part of 0 worth 4 2;part of 1 worth 8 5");
    Due.due("takes FRONT, alike", x.takes(7, 3), 0);
    Due.due("left", x.left(7, 3), 8);
    Due.due("takes BACK", x.takes(7, 1), 1);
    Due.due("left", x.left(7, 1), 5);
    Due.due("takes FRONT", x.takes(7, 5), 0);
    Due.due("left", x.left(7, 5), 4);
    Due.due("takes all", x.takes(7, 7), 0);
    Due.due("left", x.left(7, 7), 0);
    Due.due("cut", x.cut(7), 3);
    Due.due("share", x.share(0, 7), 4);
    Due.due("share", x.share(1, 7), 3);
    Due.due("gets", x.gets(0, 7), 8);
    Due.due("gets", x.gets(1, 7), 5);
    Due.due("envy", x.envy(7), 1);
    Due.due("wholes", x.wholes(7), 3);
    Due.due("wholes of a set", x.wholes(5), 2);
    Due.due("lost", x.lost(7), 17 - 13);
    Due.due("cut, least of like", x.cut(0), 0);
    Due.due("cut of one", x.cut(2), 2);
    Due.due("share of one", x.share(1, 2), 2);
    Due.due("takes of nothing", x.takes(0, 0), 0);
    Due.due("takes: not in the set", x.takes(5, 3), Due.BEYOND);
    Due.due("takes: without the least", x.takes(6, 4), Due.BEYOND);
    Due.due("takes: empty", x.takes(6, 0), Due.BEYOND);
    Due.due("takes: set", x.takes(8, 8), Due.BEYOND);
    Due.due("left: not in the set", x.left(5, 3), Due.BEYOND);
    Due.due("left: without the least", x.left(6, 4), Due.BEYOND);
    Due.due("left: set", x.left(-1, 1), Due.BEYOND);
    Due.due("cut: set", x.cut(8), Due.BEYOND);
    Due.due("share: heir", x.share(2, 7), Due.BEYOND);
    Due.due("share: heir", x.share(-1, 7), Due.BEYOND);
    Due.due("share: set", x.share(0, 8), Due.BEYOND);
    Due.due("gets: heir", x.gets(2, 7), Due.BEYOND);
    Due.due("gets: set", x.gets(0, 8), Due.BEYOND);
    Due.due("envy: set", x.envy(8), Due.BEYOND);
    Due.due("wholes: set", x.wholes(8), Due.BEYOND);
    Due.due("lost: set", x.lost(8), Due.BEYOND);
    x.heirs(1);
    Due.due("share of one heir", x.share(0, 7), 7);
    Due.due("lost with one heir", x.lost(7), 0);
    Due.due("envy with one heir", x.envy(7), 0);
    Due.due("cut with one heir", x.cut(7), Due.NONE);
    Due.due("takes with one heir", x.takes(7, 1), Due.NONE);
    Due.due("left with one heir", x.left(7, 1), Due.NONE);
    Due.due("BEYOND before NONE", x.cut(8), Due.BEYOND);
    Due.due("BEYOND before NONE", x.takes(7, 2), Due.BEYOND);
    Due.due("BEYOND before NONE", x.left(7, 2), Due.BEYOND);
  }

  private static void orders() {
    HeirHalves x = Due.estate("heirs 0 1;part of 0 worth 10 9;part of 0 worth 6 1");
    // 0 cuts 1 | 0: 1 takes PART 0. If 1 cuts, 0 takes the better half: all but nothing.
    Due.due("seat", x.seat(0), 1);
    Due.due("seat", x.seat(1), 1);
    Due.due("fewer", x.fewer(0), 10);
    Due.due("fewer: the last", x.fewer(1), Due.BEYOND);
    Due.due("fewer: heir", x.fewer(2), Due.BEYOND);
    Due.due("fewer: heir", x.fewer(-1), Due.BEYOND);
    Due.due("seat: heir", x.seat(2), Due.BEYOND);
    Due.due("seat: heir", x.seat(-1), Due.BEYOND);
    Due.due("fair", x.fair(), 1);
    x.turn(0, 1);
    Due.due("fair, whatever ORDER is", x.fair(), 1);
    Due.due("order stays", x.ith(0), 1);
    Due.due("fewer of the last", x.fewer(0), Due.BEYOND);
    Due.due("fewer", x.fewer(1), 9);
    Due.due("common, the least of like", x.common(), 0);
    x.turn(0, 1);
    // 1 is left PART 1 or PART 0 then, which 0 holds dearer by 5 or by 1.
    Due.due("common", x.common(), 1);
    x.heirs(4);
    Due.due("fair of four", new HeirHalves().fair(), 1);
    x.heirs(1);
    Due.due("fair of one", x.fair(), 0);
    Due.due("seat of one", x.seat(0), 0);
    Due.due("fewer of one", x.fewer(0), Due.BEYOND);
    Due.due("common with one heir", x.common(), 0);
    Due.due("common of none", new HeirHalves().common(), Due.NONE);
    HeirHalves put = Due.estate("whole of 0 worth 50 50;part of 0 worth 1 1;part of 1 worth 2 2");
    // PART 1 is put aside, not gone: the WHOLE has no VALUE without it, to none.
    Due.due("common: put aside", put.common(), 0);
    Due.due("lost without 0", put.lost(6), 0);
    Due.due("lost without 1", put.lost(5), 0);
  }

  private static void changesAfter() {
    HeirHalves x = Due.estate("part of 0 worth 10 9;part of 0 worth 9 10");
    // 0 cuts 1 | 2, 1 takes PART 1: none gains by changing them.
    Due.due("share", x.share(0, 3), 1);
    Due.due("deal: none", x.deal(), Due.NONE);
    Due.due("gift: none", x.gift(), Due.NONE);
    Due.due("bring", x.bring(0), 1);
    Due.due("bring: no PARTS", x.bring(1), Due.NONE);
    Due.due("bring: thing", x.bring(5), Due.BEYOND);
    Due.due("bring: thing", x.bring(-1), Due.BEYOND);
    HeirHalves alike = Due.estate("part of 0 worth 5 0;part of 0 worth 9 0");
    // All is alike to 1: it takes FRONT, which is least, and 0 has PART 1.
    Due.due("gift", alike.gift(), 0);
    Due.due("gift then", alike.share(1, 3), 1);
    HeirHalves none = new HeirHalves();
    Due.due("deal of none", none.deal(), Due.NONE);
    Due.due("gift of none", none.gift(), Due.NONE);
    HeirHalves paired = Due.estate("heirs 0 1;pair of 0 worth 5 5;pair of 0 worth 5 5;pair of 1 worth 5 5;pair of 1 worth 5 5");
    Due.due("bring of pairs", paired.bring(0), Integer.bitCount(paired.share(0, 15) & 3) % 2);
  }

  private static void edges() {
    HeirHalves x = Due.estate("part of 0 edges 1 2;part of 0 edges 2 3;part of 0 edges 3 1;part of 1 edges 1 1");
    Due.due("joins", x.joins(0, 1), 1);
    Due.due("joins", x.joins(1, 0), 0);
    Due.due("joins: other thing", x.joins(2, 3), 0);
    Due.due("joins: itself", x.joins(3, 3), Due.BEYOND);
    Due.due("joins: part", x.joins(4, 0), Due.BEYOND);
    Due.due("joins: part", x.joins(0, 4), Due.BEYOND);
    Due.due("joins: part", x.joins(-1, 0), Due.BEYOND);
    Due.due("rows of a ring", x.rows(0), 3);
    Due.due("rows of one", x.rows(1), 1);
    Due.due("rows of none", x.rows(2), Due.NONE);
    Due.due("rows: thing", x.rows(5), Due.BEYOND);
    Due.due("rows: thing", x.rows(-1), Due.BEYOND);
    for (int i = 0; i < 3; i++) {
      Due.due("row", x.row(0, i), i);
    }
    Due.due("row: not so many", x.row(0, 3), Due.NONE);
    Due.due("row: no parts", x.row(2, 0), Due.NONE);
    Due.due("row: i", x.row(0, 9), Due.BEYOND);
    Due.due("row: i", x.row(0, -1), Due.BEYOND);
    Due.due("row: thing", x.row(5, 0), Due.BEYOND);
    Due.due("row of one", x.row(1, 0), 3);
    x.change(0, 2, 9);
    Due.due("rows, no ring", x.rows(0), 1);
    x.change(1, 2, 9);
    Due.due("rows, one that none joins", x.rows(0), 0);
    Due.due("row: none", x.row(0, 0), Due.NONE);
    HeirHalves most = new HeirHalves();
    for (int p = 0; p < 9; p++) {
      most.part(0, 3);
    }
    Due.due("rows, all joined", most.rows(3), 362880);
    Due.due("row, all joined", most.row(3, 8), 8);
  }

  private static void years() {
    HeirHalves x = Due.estate("living of 0 worth 50 90;hourly of 1 worth 60 10");
    Due.due("ahead 0", x.ahead(1, 0), x.gets(1, 3));
    Due.due("years: 0", x.years(0), Due.BEYOND);
    Due.due("years: 21", x.years(21), Due.BEYOND);
    Due.due("years", x.years(20), 30 + 40);
    Due.due("count(0)", x.count(0), 20);
    int then = x.ahead(0, 15);
    Due.due("ahead changes nothing", x.count(0), 20);
    x.years(15);
    Due.due("as it was ahead", x.gets(0, 3), then);
    x.years(20);
    x.years(20);
    x.years(20);
    Due.due("count(0)", x.count(0), 95);
    Due.due("years: above 99", x.years(5), Due.STATE);
    Due.due("ahead: above 99", x.ahead(0, 5), Due.STATE);
    Due.due("ahead: to 99", x.ahead(0, 4), 0);
    Due.due("years: to 99", x.years(4), 0);
    Due.due("BEYOND before STATE", x.years(21), Due.BEYOND);
    Due.due("ahead: n", x.ahead(0, 21), Due.BEYOND);
    Due.due("ahead: n", x.ahead(0, -1), Due.BEYOND);
    Due.due("ahead: heir", x.ahead(2, 1), Due.BEYOND);
    Due.due("ahead: heir", x.ahead(-1, 0), Due.BEYOND);
    Due.due("ahead 0 at the end", x.ahead(1, 0), 0);
  }

  private static void gossip() {
    HeirHalves x = new HeirHalves();
    Due.due("gossip of none", x.gossip(1), Due.STATE);
    Due.due("z as it was", x.count(6), 1);
    Due.due("gossip: 0", x.gossip(0), Due.BEYOND);
    Due.due("gossip: 13", x.gossip(13), Due.BEYOND);
    for (int p = 0; p < 5; p++) {
      x.part(0, 0);
    }
    int[][] worths = new int[5][4];
    for (int[] worth : worths) {
      java.util.Arrays.fill(worth, 10);
    }
    long z = 1;
    for (int round = 0; round < 12; round++) {
      int[] drawn = new int[3];
      for (int i = 0; i < 12 - round; i++) {
        for (int d = 0; d < 3; d++) {
          z = (z * 1103515245L + 12345L) & 0xffffffffL;
          drawn[d] = (int) (z >> 8);
        }
        worths[drawn[0] % 5][drawn[1] % 4] = drawn[2] % 100;
      }
      int sum = 0;
      for (int[] worth : worths) {
        sum += worth[0];
      }
      Due.due("gossip", x.gossip(12 - round), sum);
      Due.due("z", x.count(6), (int) z);
    }
    for (int p = 0; p < 5; p++) {
      for (int h = 0; h < 4; h++) {
        Due.due("of, gossiped", x.of(p, 4 + h), worths[p][h]);
      }
    }
    Due.due("seed", x.seed(Integer.MIN_VALUE), (int) z);
    int before = x.status(-1);
    Due.due("count(6)", x.count(6), Integer.MIN_VALUE);
    Due.due("seed", x.seed(-1000001), Integer.MIN_VALUE);
    Due.due("seed", x.seed(7), -1000001);
    Due.due("z is no finding", x.status(-1), before);
  }

  private static void tape() {
    HeirHalves x = new HeirHalves();
    Due.due("feed: n", x.feed(0, 0), Due.BEYOND);
    Due.due("feed: n", x.feed(0, 5), Due.BEYOND);
    Due.due("feed", x.feed(0x78006b6e, 2), 2);
    Due.due("feed", x.feed(0x006f7773, 3), 5);
    Due.due("feed", x.feed(0xff2031, 2), 7);
    Due.due("count(5)", x.count(5), 7);
    Due.due("text", x.text(), 1);
    Due.due("count(5)", x.count(5), 0);
    Due.due("count(4)", x.count(4), 2);
    for (int i = 1; i <= 29; i++) {
      Due.due("feed", x.feed(0x20202020, 4), 4 * i);
    }
    Due.due("feed", x.feed(0x202020, 3), 119);
    Due.due("feed: FULL", x.feed(0x2020, 2), Due.FULL);
    Due.due("nothing of it came", x.count(5), 119);
    Due.due("feed", x.feed(0x20, 1), 120);
    Due.due("feed: FULL", x.feed(0x20, 1), Due.FULL);
    Due.due("BEYOND before FULL", x.feed(0x20, 5), Due.BEYOND);
    Due.due("wipe", x.wipe(), 120);
    Due.due("count(5)", x.count(5), 0);
    Due.due("wipe", x.wipe(), 0);
  }

  private static void spots() {
    HeirHalves x = Due.estate("whole of 0;hourly of 0;glued of 0;part of 0");
    int[][] under = {{0, 1, 3}, {0, 2, 4}, {0, 5, 6}, {0}};
    Due.due("hold", x.hold(9, 0), 1);
    for (int p = 0; p < 4; p++) {
      Due.due("hold", x.hold(p, p), 1);
      for (int kind = 0; kind < 7; kind++) {
        boolean is = false;
        for (int k : under[p]) {
          is |= k == kind;
        }
        Due.due("as(" + p + ", " + kind + ")", x.as(p, kind), is ? p : Due.KIND);
      }
    }
    Due.due("count(7)", x.count(7), 5);
    Due.due("hold nothing", x.hold(1, -1), 1);
    Due.due("count(7)", x.count(7), 4);
    Due.due("as: nothing", x.as(1, 6), Due.MISSING);
    Due.due("hold: spot", x.hold(10, 0), Due.BEYOND);
    Due.due("hold: spot", x.hold(-1, 0), Due.BEYOND);
    Due.due("hold: part", x.hold(0, 4), Due.BEYOND);
    Due.due("hold: part", x.hold(0, -2), Due.BEYOND);
    Due.due("as: spot", x.as(10, 0), Due.BEYOND);
    Due.due("as: spot", x.as(-1, 0), Due.BEYOND);
    Due.due("as: kind", x.as(1, 7), Due.BEYOND);
    Due.due("as: kind", x.as(0, -1), Due.BEYOND);
    Due.due("as, still", x.as(0, 3), 0);
    x.change(0, 0, 1);
    Due.due("as, of another kind now", x.as(0, 3), Due.KIND);
  }

  private static void sheets() {
    HeirHalves x = new HeirHalves();
    Due.due("sheet", x.sheet(0, 8, 40), 40);
    Due.due("sheet of none", x.sheet(1, 16, 0), 0);
    Due.due("write on one of none", x.write(1, 0, 0), Due.BEYOND);
    Due.due("sheet: s", x.sheet(4, 8, 1), Due.BEYOND);
    Due.due("sheet: s", x.sheet(-1, 8, -1), Due.BEYOND);
    Due.due("sheet: bits", x.sheet(0, 9, -1), Due.BEYOND);
    Due.due("sheet: SIZE", x.sheet(0, 8, -1), Due.SIZE);
    Due.due("sheet: SIZE", x.sheet(0, 0, -1), Due.SIZE);
    Due.due("sheet: n", x.sheet(0, 8, 41), Due.BEYOND);
    Due.due("sheet: n", x.sheet(0, 0, 41), Due.BEYOND);
    Due.due("write, still there", x.write(0, 39, 1), 1);
    Due.due("sheet MISSING", x.sheet(0, 0, 40), 0);
    Due.due("write: MISSING", x.write(0, 99, 1), Due.MISSING);
    Due.due("write: s", x.write(4, 0, 1), Due.BEYOND);
    Due.due("write: s", x.write(-1, 0, 1), Due.BEYOND);
    x.sheet(0, 8, 3);
    x.sheet(1, 8, 4);
    x.sheet(2, 16, 4);
    Due.due("write: i", x.write(0, 3, 1), Due.BEYOND);
    Due.due("write: i", x.write(0, -1, 1), Due.BEYOND);
    Due.due("copy: s", x.copy(4, 0, 0, 0, 1), Due.BEYOND);
    Due.due("copy: t", x.copy(0, 0, -1, 0, 1), Due.BEYOND);
    Due.due("copy: t before MISSING", x.copy(3, 0, 4, 0, 1), Due.BEYOND);
    Due.due("copy: MISSING", x.copy(3, -1, 0, 0, 1), Due.MISSING);
    Due.due("copy: MISSING", x.copy(0, 0, 3, 0, 1), Due.MISSING);
    Due.due("copy: KIND", x.copy(0, -1, 2, 0, 1), Due.KIND);
    Due.due("copy: n", x.copy(0, 0, 1, 0, -1), Due.BEYOND);
    Due.due("copy: from", x.copy(0, -1, 1, 0, 1), Due.BEYOND);
    Due.due("copy: to", x.copy(0, 0, 1, -1, 1), Due.BEYOND);
    Due.due("copy: not so many", x.copy(0, 1, 1, 0, 3), Due.BEYOND);
    Due.due("copy: not so many", x.copy(1, 0, 0, 1, 3), Due.BEYOND);
    Due.due("copy: huge", x.copy(1, Integer.MAX_VALUE, 0, 0, Integer.MAX_VALUE), Due.BEYOND);
    Due.due("copy: huge", x.copy(1, 1, 0, 1, Integer.MAX_VALUE), Due.BEYOND);
    Due.due("copy of none", x.copy(0, 3, 1, 4, 0), 0);
    Due.due("copy", x.copy(0, 0, 1, 1, 3), 3);
  }

  private static void loadAndJudge() {
    HeirHalves x = Due.estate("part of 0 worth 1;part of 0 worth 2;part of 0 worth 3");
    Due.due("load: s", x.load(4, 9), Due.BEYOND);
    Due.due("load: MISSING", x.load(0, 4), Due.MISSING);
    x.sheet(0, 8, 5);
    Due.due("load: heir", x.load(0, 4), Due.BEYOND);
    Due.due("load: heir", x.load(0, -1), Due.BEYOND);
    for (int i = 0; i < 5; i++) {
      x.write(0, i, 256 + 40 + i);
    }
    Due.due("load, as many as PARTS", x.load(0, 3), 3);
    Due.due("of", x.of(2, 7), 42);
    // Copied within one sheet, as they all were: 40 40 41 42 43.
    Due.due("copy within", x.copy(0, 0, 0, 1, 4), 4);
    Due.due("load", x.load(0, 2), 3);
    Due.due("of", x.of(0, 6), 40);
    Due.due("of", x.of(1, 6), 40);
    Due.due("of", x.of(2, 6), 41);
    x.write(0, 1, 255);
    Due.due("load, ends at -1", x.load(0, 1), 1);
    Due.due("of, loaded", x.of(0, 5), 40);
    Due.due("of, not loaded", x.of(1, 5), 10);
    x.write(0, 0, 100);
    Due.due("load, ends at 100", x.load(0, 1), 0);
    x.sheet(1, 16, 2);
    x.write(1, 0, 65536 + 99);
    x.write(1, 1, 65535);
    Due.due("load of 16 bits", x.load(1, 0), 1);
    Due.due("of", x.of(0, 4), 99);
    x.sheet(1, 32, 2);
    x.write(1, 1, 65536 + 99);
    Due.due("load of 32 bits", x.load(1, 0), 1);
    Due.due("of", x.of(0, 4), 0);
    x.sheet(1, 32, 2);
    Due.due("load of fewer than PARTS", x.load(1, 0), 2);
    judge();
  }

  private static void judge() {
    // 0 cuts 0 1 | 2, 1 takes FRONT.
    HeirHalves x = Due.estate("part of 0 worth 5 3;part of 0 worth 4 2;part of 1 worth 8 5");
    Due.due("judge: s", x.judge(4), Due.BEYOND);
    Due.due("judge: s", x.judge(-1), Due.BEYOND);
    Due.due("judge: MISSING", x.judge(0), Due.MISSING);
    x.sheet(0, 8, 0);
    Due.due("judge of none", x.judge(0), 1);
    x.sheet(0, 8, 3);
    Due.due("judge, first wrong", x.judge(0), 1);
    x.write(0, 0, 1);
    Due.due("judge, one right", x.judge(0), 2);
    x.write(0, 1, 1);
    Due.due("judge, all right", x.judge(0), 0);
    x.write(0, 2, 1);
    Due.due("judge, two right", x.judge(0), 3);
    x.sheet(0, 16, 4);
    x.write(0, 0, 1);
    x.write(0, 1, 1);
    Due.due("judge, one too many", x.judge(0), 4);
    x.sheet(0, 32, 2);
    x.write(0, 0, 1);
    x.write(0, 1, 1);
    Due.due("judge, one too few", x.judge(0), 3);
    HeirHalves none = new HeirHalves();
    none.sheet(0, 8, 0);
    Due.due("judge of no PARTS", none.judge(0), 0);
  }

  private static void images() {
    HeirHalves x = Due.estate("part of 1 worth 4 edges 1 2;heirs 2 0 1;knows 3");
    x.years(3);
    x.hold(2, 0);
    x.seed(77);
    Due.due("image", x.image(), 1);
    x.part(0, 2);
    x.hold(2, 1);
    x.hold(3, 1);
    x.change(0, 4, 9);
    x.change(0, 1, 4);
    x.heirs(1);
    x.knows(0, true);
    x.years(9);
    x.seed(78);
    x.feed(1, 1);
    x.sheet(0, 8, 2);
    Due.due("undo", x.undo(), 3);
    int[] then = {3, 1, 3, 2, 8, 1, 77, 1};
    for (int what = 0; what < 8; what++) {
      Due.due("undone: count(" + what + ")", x.count(what), then[what]);
    }
    Due.due("undone: of", x.of(0, 4), 4);
    Due.due("undone: of", x.of(0, 3), 2);
    Due.due("undone: thing", x.thing(1), 1);
    Due.due("undone: thing", x.thing(4), 0);
    Due.due("undone: as", x.as(2, 0), 0);
    Due.due("undone: as", x.as(3, 0), Due.MISSING);
    Due.due("undone: ith", x.ith(0), 2);
    Due.due("sheets stay", x.write(0, 1, 1), 1);
    Due.due("status stays", x.status(5), 1);
    x.change(0, 4, 50);
    Due.due("undo again", x.undo(), 3);
    Due.due("undone: value", x.value(0, 1), 4);
    x.years(1);
    x.image();
    x.years(1);
    Due.due("undo to the latest", x.undo(), 4);
    Due.due("undo to the latest still", x.undo(), 4);
    Due.due("tear", x.tear(), 1);
    Due.due("tear", x.tear(), 0);
    Due.due("undo: torn", x.undo(), Due.NONE);
    Due.due("as it was", x.count(0), 4);
  }

  private static void statusCounts() {
    HeirHalves x = new HeirHalves();
    x.part(9, 9);
    x.count(8);
    x.count(-1);
    x.undo();
    x.common();
    x.gossip(1);
    x.write(0, 0, 0);
    x.sheet(0, 8, -1);
    x.part(0, 0);
    x.hold(0, 0);
    x.as(0, 1);
    Due.due("text with a FAULT", x.text(), -1);
    for (int i = 0; i < 8; i++) {
      x.part(0, 0);
    }
    x.part(0, 0);
    int[] many = {3, 1, 1, 2, 1, 1, 1};
    for (int which = 0; which < 7; which++) {
      Due.due("status(" + which + ")", x.status(which), many[which]);
    }
    Due.due("status(-1)", x.status(-1), 10);
    Due.due("status(7)", x.status(7), Due.BEYOND);
    Due.due("status(-2)", x.status(-2), Due.BEYOND);
    Due.due("status(0)", x.status(0), 5);
    Due.due("status(-1)", x.status(-1), 12);
    x.image();
    x.part(9, 9);
    x.undo();
    Due.due("undo takes none back", x.status(0), 6);
  }
}
