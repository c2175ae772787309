import java.util.ArrayList;
import java.util.List;

/** Promises 3 to 33 and 45 on drawn estates, against the plodding Model. */
final class ModelTest {
  public static void main(String[] args) {
    for (int i = 0; i < 300; i++) {
      oneEstate(i);
    }
    for (int i = 0; i < 150; i++) {
      edges();
    }
    largest();
    Due.end("ModelTest");
  }

  /** 9 PARTS and 4 HEIRS: the Model takes its time for each DIVISION of these. */
  private static void largest() {
    HeirHalves x = new HeirHalves();
    Model m = new Model();
    for (int p = 0; p < 9; p++) {
      addPart(x, m);
    }
    x.heirs(4);
    Due.due("turn", x.turn(1, 3), 0);
    m.order = new int[] {0, 3, 2, 1};
    int[] shares = m.divide(m.order, 0, 511);
    for (int h = 0; h < 4; h++) {
      Due.due("share(" + h + ", 511)", x.share(h, 511), shares[h]);
    }
    Due.due("cut(511)", x.cut(511), m.cut(m.order, 0, 511));
    Due.due("takes(511, 341)", x.takes(511, 341), m.takes(511, 341));
    Due.due("lost(511)", x.lost(511), m.lost(511));
    Due.due("best(2, 5)", x.best(2, 5), m.best(2, 5));
    Due.due("best(2, 9)", x.best(2, 9), 511);
  }

  private static void oneEstate(int round) {
    HeirHalves x = new HeirHalves();
    Model m = new Model();
    // Most draws keep small: the Model divides the largest estates slowly.
    int parts = round % 150 == 99 ? 7 + round / 150 : Due.draw(7);
    for (int p = 0; p < parts; p++) {
      addPart(x, m);
    }
    for (int h = 0; h < 4; h++) {
      m.knows[h] = Due.draw(3) == 0;
      x.knows(h, m.knows[h]);
    }
    int n = 1 + Due.draw(4);
    x.heirs(n);
    m.order = new int[n];
    for (int i = 0; i < n; i++) {
      m.order[i] = i;
    }
    ask(x, m);
    for (int i = 0; i < 3; i++) {
      alter(x, m);
      ask(x, m);
    }
  }

  private static void addPart(HeirHalves x, Model m) {
    int[] traits = new int[8];
    traits[0] = Due.draw(7);
    traits[1] = Due.draw(3);
    int p = x.part(traits[0], traits[1]);
    Due.due("part", p, m.parts.size());
    boolean few = Due.draw(2) == 0;
    for (int what = 2; what < 8; what++) {
      traits[what] = what < 4 ? Due.draw(3) : Due.draw(few ? 4 : 100);
      x.change(p, what, traits[what]);
    }
    m.parts.add(traits);
  }

  private static void alter(HeirHalves x, Model m) {
    int n = m.order.length;
    switch (Due.draw(8)) {
      case 5:
        int heir = Due.draw(4);
        Due.due("knows", x.knows(heir, !m.knows[heir]), m.knows[heir] ? 1 : 0);
        m.knows[heir] = !m.knows[heir];
        break;
      case 6:
        m.order = new int[1 + Due.draw(4)];
        for (int h = 0; h < m.order.length; h++) {
          m.order[h] = h;
        }
        Due.due("heirs", x.heirs(m.order.length), n);
        break;
      case 7:
        // Divided between as it isn't any more behind undo().
        x.image();
        x.gossip(12);
        x.heirs(4);
        x.share(0, m.all());
        Due.due("undo", x.undo(), m.year);
        break;
      case 0:
        int i = Due.draw(n);
        int j = Due.draw(n);
        int was = m.order[i];
        m.order[i] = m.order[j];
        m.order[j] = was;
        Due.due("turn", x.turn(i, j), m.order[0]);
        break;
      case 1:
        int more = 1 + Due.draw(20);
        m.year += more;
        Due.due("years", x.years(more), m.value(m.dearest(m.all()), m.all()));
        break;
      case 2:
        if (m.parts.size() < 7) {
          addPart(x, m);
        }
        break;
      default:
        if (!m.parts.isEmpty()) {
          int p = Due.draw(m.parts.size());
          int what = Due.draw(8);
          int v = Due.draw(what == 0 ? 7 : what == 1 ? 5 : what < 4 ? 10 : 100);
          Due.due("change", x.change(p, what, v), m.parts.get(p)[what]);
          m.parts.get(p)[what] = v;
        }
    }
  }

  private static void ask(HeirHalves x, Model m) {
    int all = m.all();
    for (int thing = 0; thing < 5; thing++) {
      Due.due("thing", x.thing(thing), m.members(thing));
    }
    for (int i = 0; i < m.order.length; i++) {
      Due.due("ith", x.ith(i), m.order[i]);
    }
    askSet(x, m, Due.draw(all + 1));
    askSet(x, m, all);
    askSet(x, m, Due.draw(all + 1));
    for (int n = 0; n <= m.parts.size(); n++) {
      int heir = Due.draw(4);
      Due.due("best(" + heir + ", " + n + ")", x.best(heir, n), m.best(heir, n));
    }
    askHeirs(x, m);
    askChanges(x, m);
  }

  private static void askSet(HeirHalves x, Model m, int set) {
    for (int h = 0; h < 4; h++) {
      Due.due("value", x.value(h, set), m.value(h, set));
      for (int p = 0; p < m.parts.size(); p++) {
        Due.due("brings", x.brings(p, h, set), Model.in(p, set) ? m.brings(p, h, set) : Due.STATE);
      }
    }
    Due.due("dearest", x.dearest(set), m.dearest(set));
    int[] shares = m.divide(m.order, 0, set);
    int envy = 0;
    int wholes = 0;
    for (int h = 0; h < m.order.length; h++) {
      Due.due("share", x.share(h, set), shares[h]);
      Due.due("gets", x.gets(h, set), m.value(h, shares[h]));
      for (int other = 0; other < m.order.length; other++) {
        envy |= m.value(h, shares[other]) > m.value(h, shares[h]) ? 1 << h : 0;
      }
      for (int thing = 0; thing < 5; thing++) {
        int members = m.members(thing);
        wholes |= members != 0 && (members & shares[h]) == members ? 1 << thing : 0;
      }
    }
    Due.due("envy", x.envy(set), envy);
    Due.due("wholes", x.wholes(set), wholes);
    Due.due("lost", x.lost(set), m.lost(set));
    boolean one = m.order.length == 1;
    Due.due("cut", x.cut(set), one ? Due.NONE : m.cut(m.order, 0, set));
    int front = Due.draw(4) == 0 ? Due.draw(512) : set & Due.draw(512) | set & -set;
    boolean is = m.isFront(set, front);
    Due.due("takes", x.takes(set, front), !is ? Due.BEYOND : one ? Due.NONE : m.takes(set, front));
    Due.due("left", x.left(set, front), !is ? Due.BEYOND : one ? Due.NONE
        : m.value(m.order[0], m.cutSo(m.order, 0, set, front)[m.order[0]]));
  }

  private static void askHeirs(HeirHalves x, Model m) {
    int n = m.order.length;
    int[] without = new int[n - 1];
    System.arraycopy(m.order, 0, without, 0, n - 1);
    for (int h = 0; h < n; h++) {
      Due.due("seat", x.seat(h), m.seat(h));
      Due.due("fewer", x.fewer(h),
          h == m.order[n - 1] ? Due.BEYOND : m.gets(without, h) - m.gets(m.order, h));
      int more = Due.draw(21);
      m.year += more;
      int then = m.year > 99 ? Due.STATE : m.gets(m.order, h);
      m.year -= more;
      Due.due("ahead", x.ahead(h, more), then);
    }
    // 24 ORDERS of large estates take the Model long.
    if (m.parts.size() < 8 && Due.draw(m.parts.size() < 5 ? 1 : 6) == 0) {
      Due.due("fair", x.fair(), m.fair());
    }
    Due.due("common", x.common(), m.parts.isEmpty() ? Due.NONE : m.common());
  }

  private static void askChanges(HeirHalves x, Model m) {
    Due.due("deal", x.deal(), m.deal());
    Due.due("gift", x.gift(), m.gift());
    int[] shares = m.divide(m.order, 0, m.all());
    for (int thing = 0; thing < 5; thing++) {
      int members = m.members(thing);
      int fewest = 99;
      for (int share : shares) {
        fewest = Math.min(fewest, Integer.bitCount(members & ~share));
      }
      Due.due("bring", x.bring(thing), members == 0 ? Due.NONE : fewest);
    }
    int size = Math.max(0, m.parts.size() + Due.draw(3) - 1);
    x.sheet(0, 8, size);
    int right = 0;
    boolean still = true;
    for (int i = 0; i < size; i++) {
      boolean so = i < m.parts.size() && Due.draw(8) > 0;
      x.write(0, i, so ? m.owner(shares, i) : 7);
      still &= so;
      right += still ? 1 : 0;
    }
    Due.due("judge", x.judge(0), right == size && size == m.parts.size() ? 0 : 1 + right);
  }

  private static void edges() {
    HeirHalves x = new HeirHalves();
    Model m = new Model();
    int parts = 1 + Due.draw(7);
    int sorts = 1 + Due.draw(3);
    for (int p = 0; p < parts; p++) {
      int[] traits = {0, Due.draw(5) == 0 ? 1 : 0, Due.draw(sorts), Due.draw(sorts), 10, 10, 10, 10};
      x.part(0, traits[1]);
      x.change(p, 2, traits[2]);
      x.change(p, 3, traits[3]);
      m.parts.add(traits);
    }
    for (int one = 0; one < parts; one++) {
      for (int other = 0; other < parts; other++) {
        Due.due("joins", x.joins(one, other), one == other ? Due.BEYOND : m.joins(one, other) ? 1 : 0);
      }
    }
    for (int thing = 0; thing < 3; thing++) {
      List<List<Integer>> found = new ArrayList<>();
      m.rows(m.members(thing), new ArrayList<>(), found);
      boolean none = m.members(thing) == 0;
      Due.due("rows", x.rows(thing), none ? Due.NONE : found.size());
      for (int i = 0; i < 9; i++) {
        Due.due("row", x.row(thing, i),
            found.isEmpty() || i >= found.get(0).size() ? Due.NONE : found.get(0).get(i));
      }
    }
  }
}
