/** Promises 14 to 28: each sentence that names a boundary case, by itself. */
final class DividingBoundaryTest {
  public static void main(String[] args) {
    shareAndGets();
    cut();
    takes();
    left();
    envy();
    wholes();
    lost();
    seat();
    fewer();
    fair();
    common();
    deal();
    gift();
    bring();
    dividedAnew();
    Due.end("DividingBoundaryTest");
  }

  private static HeirHalves none() {
    return new HeirHalves();
  }

  /** 2 HEIRS, who hold PARTS alike; the first CUT is PART 0 | PART 1. */
  private static HeirHalves two() {
    return Due.estate("part of 0 worth 5 5;part of 1 worth 5 5");
  }

  private static void shareAndGets() {
    Due.sentence("14: SHARE of an HEIR (of those there are): BEYOND");
    Twin.range("share(heir, 7)", Twin::some, 0, 2, (y, v) -> y.share(v, 7));
    Twin.range("share(heir, 7) of one", Twin::alone, 0, 0, (y, v) -> y.share(v, 7));
    Twin.range("share(heir, 511) of four", Twin::full, 0, 3, (y, v) -> y.share(v, 511));
    Twin.range("share(0, set)", Twin::some, 0, 7, (y, v) -> y.share(0, v));
    Twin.range("share(0, set) without PARTS", DividingBoundaryTest::none, 0, 0, (y, v) -> y.share(0, v));

    Due.sentence("14: of a SET: all SHARES together are just the SET");
    HeirHalves full = Twin.full();
    for (int set = 0; set < 512; set += 7) {
      int had = 0;
      int sum = 0;
      for (int heir = 0; heir < 4; heir++) {
        had |= full.share(heir, set);
        sum += full.share(heir, set);
      }
      Due.due("shares of " + set, had, set);
      Due.due("shares of " + set + ", none twice", sum, set);
    }

    Due.sentence("15: VALUE of that to it: BEYOND");
    Twin.range("gets(heir, 7)", Twin::some, 0, 2, (y, v) -> y.gets(v, 7));
    Twin.range("gets(heir, 7) of one", Twin::alone, 0, 0, (y, v) -> y.gets(v, 7));
    Twin.range("gets(0, set)", Twin::some, 0, 7, (y, v) -> y.gets(0, v));
    Due.due("gets of a SHARE of nothing", two().gets(0, 1), 0);
    Due.due("gets of one alone", Twin.alone().gets(0, 7), 129);
  }

  private static void cut() {
    Due.sentence("16: FRONT of the first CUT of a SET (by the first of ORDER)");
    HeirHalves x = Due.estate("part of 0 worth 9 1;part of 1 worth 5 5;part of 1 worth 5 5");
    // HEIR 1 leaves PART 0 to 0, who has 9 so; but HEIR 0 would leave PART 0, 1, to it.
    Due.due("cut by HEIR 0", x.cut(7), 1);
    x.turn(0, 1);
    Due.due("cut by HEIR 1", x.cut(7), 3);
    Due.due("cut of nothing", x.cut(0), 0);

    Due.sentence("16: BEYOND");
    Twin.range("cut(set)", Twin::some, 0, 7, HeirHalves::cut);
    Twin.range("cut(set) of 9", Twin::full, 0, 511, HeirHalves::cut);

    Due.sentence("16: NONE: there is one HEIR");
    Twin.refused("cut(7) of one", Due.NONE, Twin::alone, y -> y.cut(7));
    Twin.refused("cut(0) of one", Due.NONE, Twin::alone, y -> y.cut(0));

    Due.sentence("16: BEYOND. NONE: in this order");
    Twin.refused("cut(8) of one", Due.BEYOND, Twin::alone, y -> y.cut(8));
  }

  private static void takes() {
    Due.sentence("17: BEYOND: front isn't in the SET");
    Twin.refused("takes(5, 3)", Due.BEYOND, Twin::some, y -> y.takes(5, 3));
    Twin.refused("takes(3, 7)", Due.BEYOND, Twin::some, y -> y.takes(3, 7));
    Twin.refused("takes(3, 9)", Due.BEYOND, Twin::some, y -> y.takes(3, 9));
    Twin.refused("takes(7, -1)", Due.BEYOND, Twin::some, y -> y.takes(7, -1));
    Twin.refused("takes(0, 1)", Due.BEYOND, Twin::some, y -> y.takes(0, 1));
    Twin.refused("takes(7, least of all)", Due.BEYOND, Twin::some, y -> y.takes(7, Integer.MIN_VALUE + 1));

    Due.sentence("17: BEYOND: hasn't its least PART");
    Twin.refused("takes(7, 6)", Due.BEYOND, Twin::some, y -> y.takes(7, 6));
    Twin.refused("takes(6, 4)", Due.BEYOND, Twin::some, y -> y.takes(6, 4));
    Twin.refused("takes(7, 0)", Due.BEYOND, Twin::some, y -> y.takes(7, 0));
    Due.due("takes(6, 2), the least of these", Twin.some().takes(6, 2) & ~1, 0);

    Due.sentence("17: (empty, if the SET is)");
    Due.due("takes(0, 0)", Twin.some().takes(0, 0), 0);
    Due.due("takes(0, 0) without PARTS", none().takes(0, 0), 0);

    Due.sentence("17: BEYOND: the SET");
    Twin.range("takes(set, 1)", Twin::some, 1, 7, (y, v) -> y.takes(v, 1));
    Twin.refused("takes(8, 8)", Due.BEYOND, Twin::some, y -> y.takes(8, 8));
    Twin.refused("takes(-1, -1)", Due.BEYOND, Twin::some, y -> y.takes(-1, -1));

    Due.sentence("17: NONE: there is one HEIR");
    Twin.refused("takes(7, 1) of one", Due.NONE, Twin::alone, y -> y.takes(7, 1));
    Twin.refused("takes(0, 0) of one", Due.NONE, Twin::alone, y -> y.takes(0, 0));

    Due.sentence("17: BEYOND. NONE: in this order");
    Twin.refused("takes(7, 2) of one", Due.BEYOND, Twin::alone, y -> y.takes(7, 2));
    Twin.refused("takes(8, 8) of one", Due.BEYOND, Twin::alone, y -> y.takes(8, 8));

    Due.sentence("17: Which half the second one takes: 0 FRONT, 1 BACK");
    HeirHalves x = two();
    Due.due("alike", x.takes(3, 1), 0);
    x.change(1, 5, 6);
    Due.due("BACK one dearer to the second one", x.takes(3, 1), 1);
    x.turn(0, 1);
    Due.due("alike to the one that is second now", x.takes(3, 1), 0);
    Due.due("BACK is empty", x.takes(3, 3), 0);
  }

  private static void left() {
    Due.sentence("18: VALUE that the first one has left then");
    HeirHalves x = two();
    Due.due("the second one takes FRONT", x.left(3, 1), 5);
    Due.due("the second one takes all", x.left(3, 3), 0);
    Due.due("of nothing", x.left(0, 0), 0);
    Due.due("of one PART", x.left(2, 2), 0);
    x.change(1, 4, 9);
    Due.due("BACK is left", x.left(3, 1), 9);
    x.change(1, 5, 6);
    Due.due("FRONT is left", x.left(3, 1), 5);

    Due.sentence("18: BEYOND");
    Twin.refused("left(5, 3)", Due.BEYOND, Twin::some, y -> y.left(5, 3));
    Twin.refused("left(7, 6)", Due.BEYOND, Twin::some, y -> y.left(7, 6));
    Twin.refused("left(7, 0)", Due.BEYOND, Twin::some, y -> y.left(7, 0));
    Twin.refused("left(0, 1)", Due.BEYOND, Twin::some, y -> y.left(0, 1));
    Twin.refused("left(8, 8)", Due.BEYOND, Twin::some, y -> y.left(8, 8));
    Twin.refused("left(-1, 1)", Due.BEYOND, Twin::some, y -> y.left(-1, 1));
    Twin.range("left(set, 1)", Twin::some, 1, 7, (y, v) -> y.left(v, 1));

    Due.sentence("18: NONE likewise");
    Twin.refused("left(7, 1) of one", Due.NONE, Twin::alone, y -> y.left(7, 1));
    Twin.refused("left(0, 0) of one", Due.NONE, Twin::alone, y -> y.left(0, 0));
    Twin.refused("left(7, 2) of one: BEYOND before it", Due.BEYOND, Twin::alone, y -> y.left(7, 2));
  }

  private static void envy() {
    Due.sentence("19: HEIRS to whom another one's SHARE has more VALUE than their own");
    HeirHalves x = two();
    Due.due("alike is no more", x.envy(3), 0);
    x.change(0, 4, 6);
    Due.due("one more, of FRONT", x.envy(3), 1);
    HeirHalves y = Due.estate("part of 0 worth 5 5;part of 1 worth 9 4;part of 1 worth 0 2");
    // 0 cuts 0 2 | 1, and 1 takes FRONT, which has 7 to it, as PART 1 has later on.
    Due.due("share(1)", y.share(1, 7), 5);
    Due.due("none", y.envy(7), 0);
    y.change(1, 5, 7);
    Due.due("share(1), alike", y.share(1, 7), 5);
    Due.due("none, alike", y.envy(7), 0);
    HeirHalves last = Due.estate("heirs 0 1 2;part of 1 worth 1 1 1;part of 1 worth 2 2 2");
    Due.due("of 3, who has nothing or less, HEIR 0's", last.envy(3), 6);
    Due.due("of nothing", x.envy(0), 0);
    Due.due("of one PART, which the last has", x.envy(2), 1);
    x.heirs(4);
    Due.due("of one PART, all but the last", x.envy(1), 7);
    x.heirs(1);
    Due.due("one HEIR", x.envy(3), 0);

    Due.sentence("19: BEYOND");
    Twin.range("envy(set)", Twin::some, 0, 7, HeirHalves::envy);
    Twin.range("envy(set) of 9", Twin::full, 0, 511, HeirHalves::envy);
  }

  private static void wholes() {
    Due.sentence("20: THINGS all of whose PARTS are in one HEIR's SHARE");
    HeirHalves x = two();
    Due.due("each THING's only PART", x.wholes(3), 3);
    x.change(1, 1, 0);
    Due.due("PARTS with two HEIRS", x.wholes(3), 0);
    x.heirs(1);
    Due.due("with one HEIR", x.wholes(3), 1);
    Due.due("not all PARTS are in the SET", x.wholes(1), 0);

    Due.sentence("20: (with a PART in the SET)");
    HeirHalves y = two();
    Due.due("of nothing: not those without PARTS", y.wholes(0), 0);
    Due.due("of one PART", y.wholes(2), 2);

    Due.sentence("20: BEYOND");
    Twin.range("wholes(set)", Twin::some, 0, 7, HeirHalves::wholes);
    Twin.range("wholes(set) of 9", Twin::full, 0, 511, HeirHalves::wholes);
  }

  private static void lost() {
    Due.sentence("21: By how much all SHARES have less VALUE than the SET has to dearest() (below 0: more)");
    HeirHalves x = Due.estate("part of 0 worth 9 0;part of 1 worth 0 8");
    Due.due("more", x.lost(3), 9 - 17);
    Due.due("less", x.lost(1), 9);
    Due.due("alike", x.lost(2), 0);
    Due.due("of nothing", x.lost(0), 0);
    x.heirs(1);
    Due.due("one HEIR loses nothing", x.lost(3), 0);

    Due.sentence("21: BEYOND");
    Twin.range("lost(set)", Twin::some, 0, 7, HeirHalves::lost);
    Twin.range("lost(set) of 9", Twin::full, 0, 511, HeirHalves::lost);
  }

  private static void seat() {
    Due.sentence("22: The place in ORDER (from 0) in which an HEIR would get most");
    HeirHalves x = Due.estate("heirs 2 0 3 1;part of 0 worth 1 1 1 0");
    Due.due("one PART goes to the last place", x.seat(0), 3);
    Due.due("who has it, already there", x.seat(1), 3);
    Due.due("all places alike: the least", x.seat(3), 0);
    Due.due("one HEIR", Twin.alone().seat(0), 0);
    Due.due("without PARTS", none().seat(1), 0);
    Twin.unchanged("seat(1)", Twin::some, y -> y.seat(1));

    Due.sentence("22: changing places with who is there");
    HeirHalves y = Due.estate("heirs 0 1 2;part of 0 worth 2 0 0;part of 0 worth 0 0 0;part of 0 worth 0 0 2");
    // HEIR 1 takes any FRONT, with PART 0: in the ORDER 2 1 0 it goes on to HEIR 0, in 1 2 0 it doesn't.
    Due.due("gets in its place", y.gets(0, 7), 0);
    Due.due("seat", y.seat(0), 2);
    y.turn(0, 2);
    Due.due("gets in that one", y.gets(0, 7), 2);
    y.turn(0, 1);
    Due.due("gets in 1 2 0", y.gets(0, 7), 0);

    Due.sentence("22: BEYOND (of those there are)");
    Twin.range("seat(heir)", Twin::some, 0, 2, HeirHalves::seat);
    Twin.range("seat(heir) of one", Twin::alone, 0, 0, HeirHalves::seat);
    Twin.range("seat(heir) of four", Twin::full, 0, 3, HeirHalves::seat);
  }

  private static void fewer() {
    Due.sentence("23: By how much more VALUE an HEIR gets of all PARTS, if the last of ORDER isn't there");
    HeirHalves x = Due.estate("heirs 0 1 2;part of 0 worth 7 8 9");
    Due.due("the one that is last then", x.fewer(1), 8);
    Due.due("not the one before", x.fewer(0), 0);
    HeirHalves less = Due.estate("heirs 0 1 2;part of 0 worth 0 0 1;part of 1 worth 1 1 1");
    Due.due("less", less.fewer(0), -1);
    Due.due("one alone has it all then", two().fewer(0), 5);
    Due.due("without PARTS", none().fewer(0), 0);
    Twin.unchanged("fewer(0)", Twin::some, y -> y.fewer(0));

    Due.sentence("23: BEYOND: also the last one");
    Twin.refused("fewer(1), the last of 2 0 1", Due.BEYOND, Twin::some, y -> y.fewer(1));
    Twin.refused("fewer(0) of one", Due.BEYOND, Twin::alone, y -> y.fewer(0));
    Due.due("fewer(2), the first of these", Twin.some().fewer(2) < -1000000 ? 1 : 0, 0);
    Twin.refused("fewer(3)", Due.BEYOND, Twin::some, y -> y.fewer(3));
    Twin.range("fewer(heir)", Twin::full, 0, 2, HeirHalves::fewer);
  }

  private static void fair() {
    Due.sentence("24: in which least is lost() of all PARTS");
    HeirHalves x = Due.estate("part of 0 worth 5 3");
    Due.due("the last has it", x.fair(), 10);
    x.change(0, 5, 6);
    Due.due("dearer to the other one", x.fair(), 1);
    Due.due("of four, who holds it dearest is last", worth(4, 9, 0, 0, 0).fair(), 1230);
    Due.due("of four", worth(4, 0, 9, 0, 0).fair(), 231);
    Due.due("of four", worth(4, 0, 0, 0, 9).fair(), 123);
    Due.due("of three, though the fourth holds it dearer", worth(3, 0, 1, 0, 9).fair(), 21);

    Due.sentence("24: of several the first, going by the first HEIR, then the second, ..");
    x.change(0, 5, 5);
    Due.due("alike", x.fair(), 1);
    x.turn(0, 1);
    Due.due("alike, whatever ORDER is", x.fair(), 1);
    Due.due("two alike of three", worth(3, 9, 9, 0, 0).fair(), 21);
    Due.due("two alike of three", worth(3, 9, 0, 9, 0).fair(), 12);
    HeirHalves y = Due.estate("heirs 0 1 2;part of 0 worth 1 2 1;part of 0 worth 1 2 0");
    // The first has PART 1, the last PART 0: 3 of 0 2 1, of 1 0 2 and of 1 2 0, else less.
    Due.due("three ORDERS alike", y.fair(), 21);

    Due.sentence("24: Of all ORDERS: each HEIR is in them once");
    HeirHalves once = Due.estate("whole of 0 worth 0 10;whole of 0 worth 0 10;part of 1 worth 0 1");
    // Only HEIR 1, cutting for itself and choosing then, would get both WHOLES.
    Due.due("fair", once.fair(), 1);

    Due.sentence("24: told as a number with its HEIRS as digits");
    Due.due("one HEIR", Twin.alone().fair(), 0);
    Due.due("without PARTS", none().fair(), 1);
    HeirHalves four = none();
    four.heirs(4);
    Due.due("four without PARTS", four.fair(), 123);
    Twin.unchanged("fair()", Twin::some, HeirHalves::fair);
  }

  private static HeirHalves worth(int heirs, int... worths) {
    HeirHalves x = new HeirHalves();
    x.part(0, 0);
    for (int heir = 0; heir < 4; heir++) {
      x.change(0, 4 + heir, worths[heir]);
    }
    x.heirs(heirs);
    return x;
  }

  private static void common() {
    Due.sentence("25: The PART without which (it is put aside) lost() of all others is least");
    HeirHalves x = Due.estate("part of 0 worth 9 1;part of 1 worth 8 1");
    // One PART alone goes to HEIR 1: 8 or 7 is lost.
    Due.due("lost without PART 0", x.lost(2), 7);
    Due.due("lost without PART 1", x.lost(1), 8);
    Due.due("common", x.common(), 0);
    x.change(1, 4, 9);
    Due.due("alike: the least", x.common(), 0);
    x.change(1, 4, 10);
    Due.due("one less without PART 1", x.common(), 1);
    Due.due("one PART", worth(2, 1, 1, 1, 1).common(), 0);
    Due.due("one PART of one HEIR", worth(1, 1, 1, 1, 1).common(), 0);
    HeirHalves more = Due.estate("part of 0 worth 9 9;part of 1 worth 9 0;part of 1 worth 0 9");
    // Without PART 0 each has what it holds dear: lost is below 0.
    Due.due("lost below 0", more.lost(6), -9);
    Due.due("common, lost below 0", more.common(), 0);
    HeirHalves all = Due.estate("part of 0 worth 9 0;part of 1 worth 0 9");
    Due.due("lost of all is less than without any", all.lost(3), -9);
    Due.due("common, though", all.common(), 0);
    Twin.unchanged("common()", Twin::some, HeirHalves::common);

    Due.sentence("25: NONE: there are none");
    Twin.refused("common() without PARTS", Due.NONE, DividingBoundaryTest::none, HeirHalves::common);
  }

  private static void deal() {
    Due.sentence("26: Two PARTS .., of two HEIRS, that both have more VALUE if they change them");
    // Of 3 HEIRS with 2 PARTS the first has PART 1 and the last PART 0.
    HeirHalves x = Due.estate("heirs 0 1 2;part of 0 worth 3 0 1;part of 1 worth 2 0 2");
    Due.due("share(0)", x.share(0, 3), 2);
    Due.due("share(2)", x.share(2, 3), 1);
    Due.due("deal", x.deal(), 1);
    x.change(0, 4, 2);
    Due.due("alike to the first", x.deal(), Due.NONE);
    x.change(0, 4, 3);
    x.change(1, 6, 1);
    Due.due("alike to the last", x.deal(), Due.NONE);

    Due.sentence("26: 10 times the lesser number, and the other one; the first so");
    HeirHalves y = Due.estate("heirs 0 1 2;part of 0 worth 2 2 0;part of 0 worth 3 3 1;part of 0 worth 2 2 3",
        "part of 0 worth 2 1 2");
    // 0 has 2 and 3, 1 has 0, 2 has 1: 0 and 2 could change 1 with 2 or with 3.
    Due.due("share(0)", y.share(0, 15), 12);
    Due.due("share(2)", y.share(2, 15), 2);
    Due.due("deal", y.deal(), 12);
    y.change(2, 4, 3);
    Due.due("share(0), still", y.share(0, 15), 12);
    Due.due("but for the first", y.deal(), 13);

    Due.sentence("26: NONE");
    Twin.refused("deal() without PARTS", Due.NONE, DividingBoundaryTest::none, HeirHalves::deal);
    Twin.refused("deal() of one HEIR", Due.NONE, Twin::alone, HeirHalves::deal);
    Twin.refused("deal() of one PART", Due.NONE, () -> worth(2, 9, 9, 9, 9), HeirHalves::deal);
    Twin.refused("deal() of two alike", Due.NONE, DividingBoundaryTest::two, HeirHalves::deal);
  }

  private static void gift() {
    Due.sentence("27: has more VALUE added by it at another one's than it takes from it");
    Due.due("one more", worth(2, 6, 5, 0, 0).gift(), 0);
    Due.due("alike is no more", worth(2, 5, 5, 0, 0).gift(), Due.NONE);
    Due.due("one less", worth(2, 4, 5, 0, 0).gift(), Due.NONE);
    Due.due("one not there", worth(2, 4, 5, 99, 99).gift(), Due.NONE);
    hourlyGift();

    Due.sentence("27: the first by its number: 10 times it");
    HeirHalves x = Due.estate("part of 0 worth 5 5;part of 1 worth 5 9");
    // 1 takes PART 1, and 0 has PART 0, which 1 holds alike.
    Due.due("none", x.gift(), Due.NONE);
    x.change(0, 5, 6);
    Due.due("PART 0 to HEIR 1", x.gift(), 1);
    x.change(0, 5, 0);
    x.change(1, 4, 0);
    x.change(0, 4, 0);
    x.change(1, 5, 0);
    Due.due("nothing is worth anything", x.gift(), Due.NONE);
    HeirHalves second = Due.estate("part of 0 worth 1 1;part of 1 worth 9 9;part of 1 worth 3 4");
    // 1 takes PART 1, 0 has 0 and 2.
    Due.due("share(0)", second.share(0, 7), 5);
    Due.due("PART 2 to HEIR 1", second.gift(), 21);

    Due.sentence("27: the HEIR (the least) by whom it gains most");
    Due.due("alike", worth(4, 7, 7, 7, 1).gift(), 0);
    Due.due("the second of these", worth(4, 6, 7, 7, 1).gift(), 1);
    Due.due("the third of these", worth(4, 6, 6, 7, 1).gift(), 2);
    Due.due("more than it takes, of three", worth(3, 2, 2, 1, 0).gift(), 0);

    Due.sentence("27: NONE");
    Twin.refused("gift() without PARTS", Due.NONE, DividingBoundaryTest::none, HeirHalves::gift);
    Twin.refused("gift() of one HEIR", Due.NONE, Twin::alone, HeirHalves::gift);
    Twin.refused("gift() of two alike", Due.NONE, DividingBoundaryTest::two, HeirHalves::gift);
  }

  /** What is taken may be below 0: HOURLY ones are halved no more without a fourth PART. */
  private static void hourlyGift() {
    HeirHalves x = new HeirHalves();
    for (int p = 0; p < 7; p++) {
      x.part(4, 0);
      x.change(p, 4, p < 4 ? 0 : 26);
      x.change(p, 5, p < 4 ? 40 : 20);
    }
    Due.due("share(1), of four", x.share(1, 127), 15);
    Due.due("takes -40, adds -39", x.gift(), 0);
    for (int p = 4; p < 7; p++) {
      x.change(p, 4, 27);
    }
    Due.due("share(1), still", x.share(1, 127), 15);
    Due.due("takes -40, adds -42", x.gift(), Due.NONE);
  }

  private static void bring() {
    Due.sentence("28: The fewest PARTS that must go to another HEIR");
    HeirHalves x = two();
    Due.due("whole already", x.bring(1), 0);
    x.change(1, 1, 0);
    Due.due("one with each", x.bring(0), 1);
    x.heirs(1);
    Due.due("one HEIR", x.bring(0), 0);
    HeirHalves y = Due.estate("part of 0 worth 0 9;part of 0 worth 1 1;part of 0 worth 1 1;part of 0 worth 1 1");
    // 1 has PART 0, 0 has the three others.
    Due.due("share(1)", y.share(1, 15), 1);
    Due.due("the lesser number goes", y.bring(0), 1);
    y.change(0, 1, 4);
    Due.due("all with one", y.bring(0), 0);
    HeirHalves four = Due.estate("heirs 0 1 2 3;part of 0;part of 0;part of 0;part of 0");
    Due.due("all but those of who has most", four.bring(0), 4 - most(four));

    Due.sentence("28: BEYOND");
    Twin.range("bring(thing)", DividingBoundaryTest::five, 0, 4, HeirHalves::bring);
    Twin.refused("bring(5) without PARTS", Due.BEYOND, DividingBoundaryTest::none, z -> z.bring(5));

    Due.sentence("28: NONE: it has no PARTS");
    Twin.refused("bring(1)", Due.NONE, Twin::some, z -> z.bring(1));
    Twin.refused("bring(4)", Due.NONE, Twin::some, z -> z.bring(4));
  }

  private static int most(HeirHalves x) {
    int most = 0;
    for (int heir = 0; heir < x.count(2); heir++) {
      most = Math.max(most, Integer.bitCount(x.share(heir, (1 << x.count(1)) - 1)));
    }
    return most;
  }

  private static void dividedAnew() {
    Due.sentence("14: a SET DIVIDED among all in ORDER, as all is when it is asked");
    anew("WORTH", x -> x.change(1, 5, 90));
    anew("KIND", x -> x.change(4, 0, 1));
    anew("THING", x -> x.change(0, 1, 2));
    anew("knows", x -> x.knows(0, true));
    anew("knows no more", x -> x.knows(2, false));
    anew("years", x -> x.years(20));
    anew("a new PART", x -> x.part(1, 2));
    anew("gossip", x -> x.gossip(12));
    anew("load", x -> {
      Twin.sheet(x, 0, 8, 1, 99, 2, 98, 3, 97);
      return x.load(0, 1);
    });
    anew("text", x -> Due.tell(x, "heirs 3 1 0 2;knows 1;pair of 1 worth 50 60 70 80"));
    anew("undo", HeirHalves::undo);
    for (int n = 1; n <= 4; n++) {
      int many = n;
      anew("heirs(" + n + ")", x -> x.heirs(many));
    }
    for (int i = 0; i < 3; i++) {
      for (int j = 0; j < i; j++) {
        int one = i;
        int other = j;
        anew("turn(" + i + ", " + j + ")", x -> x.turn(one, other));
      }
    }

    Due.sentence("14: of a SET: whatever SET was asked for before");
    HeirHalves x = mixed();
    for (int set = 0; set < 64; set++) {
      x.gossip(12);
      x.share(0, 63 - set);
      Due.due("share(1, " + set + ") behind that of " + (63 - set), x.share(1, set), like(x).share(1, set));
    }
    for (int p = 0; p < 6; p++) {
      for (int drawn = 0; drawn < 5; drawn++) {
        x.gossip(12);
        x.share(0, 63 - (1 << p));
        Due.due("share(1, 63) behind that of all but " + p, x.share(1, 63), like(x).share(1, 63));
      }
    }
  }

  private static void anew(String act, Twin.Act told) {
    HeirHalves x = mixed();
    x.share(0, 63);
    told.on(x);
    int all = (1 << x.count(1)) - 1;
    int[] sets = {all, all - 1, all / 2, 3, 0};
    for (int set : sets) {
      for (int heir = 0; heir < x.count(2); heir++) {
        Due.due("share(" + heir + ", " + set + ") behind " + act, x.share(heir, set), like(x).share(heir, set));
      }
    }
  }

  /** 6 PARTS of all sorts, 3 HEIRS; an image is kept of other WORTHS. */
  private static HeirHalves mixed() {
    HeirHalves x = new HeirHalves();
    int[][] traits = {{1, 0, 31, 12, 40, 3}, {4, 1, 60, 70, 13, 50}, {5, 1, 44, 45, 46, 7}, {6, 0, 35, 27, 39, 60},
        {2, 2, 21, 52, 33, 44}, {3, 2, 17, 38, 59, 20}};
    for (int p = 0; p < 6; p++) {
      x.part(traits[p][0], traits[p][1]);
      for (int heir = 0; heir < 4; heir++) {
        x.change(p, 4 + heir, 99 - traits[p][2 + heir]);
      }
    }
    x.image();
    for (int p = 0; p < 6; p++) {
      for (int heir = 0; heir < 4; heir++) {
        x.change(p, 4 + heir, traits[p][2 + heir]);
      }
    }
    x.heirs(3);
    x.knows(2, true);
    return x;
  }

  /** A new object of the same PARTS, HEIRS, ORDER and YEAR, of which nothing was asked yet. */
  private static HeirHalves like(HeirHalves x) {
    HeirHalves same = new HeirHalves();
    for (int p = 0; p < x.count(1); p++) {
      same.part(x.of(p, 0), x.of(p, 1));
      for (int what = 2; what < 8; what++) {
        same.change(p, what, x.of(p, what));
      }
    }
    for (int heir = 0; heir < 4; heir++) {
      same.knows(heir, (x.count(4) >> heir & 1) == 1);
    }
    if (x.count(0) > 0) {
      same.years(x.count(0));
    }
    StringBuilder order = new StringBuilder("heirs");
    for (int i = 0; i < x.count(2); i++) {
      order.append(' ').append(x.ith(i));
    }
    Due.due("\"" + order + "\"", Due.tell(same, order.toString()), 1);
    return same;
  }

  /** A PART of each THING. */
  private static HeirHalves five() {
    HeirHalves x = new HeirHalves();
    for (int thing = 0; thing < 5; thing++) {
      x.part(0, thing);
    }
    return x;
  }
}
