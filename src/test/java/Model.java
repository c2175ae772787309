import java.util.ArrayList;
import java.util.List;

/** The estate once more, in the most plodding way: no tables, each DIVISION from its words. */
final class Model {
  static final int[][] UNDER = {{0}, {1, 0}, {2, 0}, {3, 1, 0}, {4, 2, 0}, {5, 0}, {6, 5, 0}};

  final List<int[]> parts = new ArrayList<>();
  final boolean[] knows = new boolean[4];
  int year = 0;
  int[] order = {0, 1};

  Model copy() {
    Model copy = new Model();
    for (int[] traits : parts) {
      copy.parts.add(traits.clone());
    }
    System.arraycopy(knows, 0, copy.knows, 0, knows.length);
    copy.year = year;
    copy.order = order.clone();
    return copy;
  }

  int all() {
    return (1 << parts.size()) - 1;
  }

  static boolean in(int part, int set) {
    return (set & (1 << part)) != 0;
  }

  int members(int thing) {
    int set = 0;
    for (int p = 0; p < parts.size(); p++) {
      set += parts.get(p)[1] == thing ? 1 << p : 0;
    }
    return set;
  }

  int brings(int part, int heir, int set) {
    return brings(parts.get(part)[0], part, heir, set);
  }

  private int brings(int kind, int part, int heir, int set) {
    int[] traits = parts.get(part);
    int mates = Integer.bitCount(set & members(traits[1])) - 1;
    switch (kind) {
      case 1:
        return brings(0, part, heir, set) + (mates > 0 ? traits[4 + heir] : 0);
      case 2:
        return brings(0, part, heir, set) > year ? brings(0, part, heir, set) - year : 0;
      case 3:
        return mates + 1 < Integer.bitCount(members(traits[1])) ? 0 : brings(1, part, heir, set);
      case 4:
        return brings(2, part, heir, set) / (Integer.bitCount(set) > 3 ? 2 : 1);
      case 5:
        return knows[heir] ? 0 : brings(0, part, heir, set);
      case 6:
        return brings(5, part, heir, set) + (mates > 0 ? 5 : 0);
      default:
        return traits[4 + heir];
    }
  }

  int value(int heir, int set) {
    int sum = 0;
    for (int p = 0; p < parts.size(); p++) {
      sum += in(p, set) ? brings(p, heir, set) : 0;
    }
    return sum;
  }

  int dearest(int set) {
    int best = 0;
    for (int h = 1; h < order.length; h++) {
      best = value(h, set) > value(best, set) ? h : best;
    }
    return best;
  }

  int best(int heir, int n) {
    int best = -1;
    for (int set = all(); set >= 0; set--) {
      if (Integer.bitCount(set) == n && (best < 0 || value(heir, set) >= value(heir, best))) {
        best = set;
      }
    }
    return best;
  }

  /** SHARES of a row from a place on, by HEIR. */
  int[] divide(int[] row, int from, int set) {
    if (from == row.length - 1) {
      int[] shares = new int[4];
      shares[row[from]] = set;
      return shares;
    }
    return cutSo(row, from, set, cut(row, from, set));
  }

  int cut(int[] row, int from, int set) {
    int best = -1;
    int most = -1;
    int front = 0;
    do {
      if (isFront(set, front)) {
        int left = value(row[from], cutSo(row, from, set, front)[row[from]]);
        if (left > most) {
          most = left;
          best = front;
        }
      }
      front = (front - set) & set;
    } while (front != 0);
    return best;
  }

  boolean isFront(int set, int front) {
    return (front & ~set) == 0 && (set == 0 || in(Integer.numberOfTrailingZeros(set), front));
  }

  int[] cutSo(int[] row, int from, int set, int front) {
    int second = row[from + 1];
    int[] byFront = divide(row, from + 1, front);
    int[] byBack = divide(row, from + 1, set - front);
    boolean back = value(second, byBack[second]) > value(second, byFront[second]);
    int[] shares = back ? byBack : byFront;
    shares[row[from]] = back ? front : set - front;
    return shares;
  }

  int takes(int set, int front) {
    int second = order[1];
    int byFront = value(second, divide(order, 1, front)[second]);
    return value(second, divide(order, 1, set - front)[second]) > byFront ? 1 : 0;
  }

  int sum(int[] row, int set) {
    int[] shares = divide(row, 0, set);
    int sum = 0;
    for (int h : row) {
      sum += value(h, shares[h]);
    }
    return sum;
  }

  int lost(int set) {
    return value(dearest(set), set) - sum(order, set);
  }

  int gets(int[] row, int heir) {
    return value(heir, divide(row, 0, all())[heir]);
  }

  int seat(int heir) {
    int own = 0;
    while (order[own] != heir) {
      own++;
    }
    int best = 0;
    int most = -1;
    for (int i = 0; i < order.length; i++) {
      int[] row = order.clone();
      row[own] = row[i];
      row[i] = heir;
      if (gets(row, heir) > most) {
        most = gets(row, heir);
        best = i;
      }
    }
    return best;
  }

  int fair() {
    int best = 0;
    int most = -1;
    for (int told = 0; told <= 3210; told++) {
      int[] row = new int[order.length];
      int set = 0;
      int rest = told;
      for (int i = row.length - 1; i >= 0; i--) {
        row[i] = rest % 10;
        set |= 1 << row[i];
        rest /= 10;
      }
      if (rest == 0 && set == (1 << row.length) - 1 && sum(row, all()) > most) {
        most = sum(row, all());
        best = told;
      }
    }
    return best;
  }

  int common() {
    int best = 0;
    for (int p = 1; p < parts.size(); p++) {
      best = lost(all() - (1 << p)) < lost(all() - (1 << best)) ? p : best;
    }
    return best;
  }

  int owner(int[] shares, int part) {
    int owner = 0;
    while (!in(part, shares[owner])) {
      owner++;
    }
    return owner;
  }

  int deal() {
    int[] shares = divide(order, 0, all());
    for (int a = 0; a < parts.size(); a++) {
      for (int b = a + 1; b < parts.size(); b++) {
        int one = owner(shares, a);
        int other = owner(shares, b);
        int oneThen = shares[one] - (1 << a) + (1 << b);
        int otherThen = shares[other] - (1 << b) + (1 << a);
        if (one != other && value(one, oneThen) > value(one, shares[one])
            && value(other, otherThen) > value(other, shares[other])) {
          return 10 * a + b;
        }
      }
    }
    return Due.NONE;
  }

  int gift() {
    int[] shares = divide(order, 0, all());
    for (int p = 0; p < parts.size(); p++) {
      int own = owner(shares, p);
      int loss = value(own, shares[own]) - value(own, shares[own] - (1 << p));
      int best = -1;
      int most = 0;
      for (int h = 0; h < order.length; h++) {
        if (h != own) {
          int gain = value(h, shares[h] + (1 << p)) - value(h, shares[h]);
          if (gain > loss && (best < 0 || gain > most)) {
            best = h;
            most = gain;
          }
        }
      }
      if (best >= 0) {
        return 10 * p + best;
      }
    }
    return Due.NONE;
  }

  boolean joins(int one, int other) {
    return parts.get(one)[3] == parts.get(other)[2] && parts.get(one)[1] == parts.get(other)[1];
  }

  /** All rows of PARTS behind those that lie already, the first by numbers foremost. */
  void rows(int rest, List<Integer> row, List<List<Integer>> found) {
    if (rest == 0) {
      found.add(new ArrayList<>(row));
    }
    for (int p = 0; p < parts.size(); p++) {
      if (in(p, rest) && (row.isEmpty() || joins(row.get(row.size() - 1), p))) {
        row.add(p);
        rows(rest - (1 << p), row, found);
        row.remove(row.size() - 1);
      }
    }
  }
}
