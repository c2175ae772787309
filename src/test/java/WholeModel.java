import java.util.ArrayList;
import java.util.Arrays;
import java.util.List;
import java.util.regex.Matcher;
import java.util.regex.Pattern;

/** All fifty promises once more, from their words: each act asks its findings by ask(), which ends it. */
final class WholeModel {
  /** An act's finding. */
  static final class Finding extends RuntimeException {
    private static final long serialVersionUID = 1L;
    final int answer;

    Finding(int answer) {
      this.answer = answer;
    }
  }

  /** The place of a FAULT. */
  private static final class Fault extends RuntimeException {
    private static final long serialVersionUID = 1L;
    final int place;

    Fault(int place) {
      this.place = place;
    }
  }

  private static final Pattern TOKEN = Pattern.compile("[a-z]+|[0-9]+|[^ ]");
  private static final List<String> KINDS = List.of("part", "pair", "living", "whole", "hourly", "feigned", "glued");
  private static final int[] MOST = {6, 4, 9, 9, 99, 99, 99, 99};

  Model m = new Model();
  private int z = 1;
  private int[] spots = new int[10];
  private final int[][] sheets = new int[4][];
  private final int[] bits = new int[4];
  private String tape = "";
  private Model keptModel = null;
  private int keptZ = 0;
  private int[] keptSpots = {};
  final int[] found = new int[7];
  // Of the TEXT that is read: its TOKENS with an empty one behind them, where they begin, which one is next.
  private final List<String> tokens = new ArrayList<>();
  private final List<Integer> places = new ArrayList<>();
  private int next = 0;

  WholeModel() {
    Arrays.fill(spots, -1);
  }

  private static void ask(boolean fine, int finding) {
    if (!fine) {
      throw new Finding(finding);
    }
  }

  private static void range(int v, int least, int most) {
    ask(v >= least && v <= most, Due.BEYOND);
  }

  private void isPart(int part) {
    range(part, 0, m.parts.size() - 1);
  }

  private void isThere(int heir) {
    range(heir, 0, m.order.length - 1);
  }

  private void isSet(int set) {
    range(set, 0, m.all());
  }

  private int[] shares(int set) {
    return m.divide(m.order, 0, set);
  }

  int part(int kind, int thing) {
    range(kind, 0, 6);
    range(thing, 0, 4);
    ask(m.parts.size() < 9, Due.FULL);
    m.parts.add(new int[] {kind, thing, 0, 0, 10, 10, 10, 10});
    return m.parts.size() - 1;
  }

  int of(int part, int what) {
    isPart(part);
    range(what, 0, 7);
    return m.parts.get(part)[what];
  }

  int change(int part, int what, int v) {
    int was = of(part, what);
    range(v, 0, MOST[what]);
    m.parts.get(part)[what] = v;
    return was;
  }

  int thing(int thing) {
    range(thing, 0, 4);
    return m.members(thing);
  }

  int knows(int heir, boolean is) {
    range(heir, 0, 3);
    boolean was = m.knows[heir];
    m.knows[heir] = is;
    return was ? 1 : 0;
  }

  int heirs(int n) {
    range(n, 1, 4);
    int were = m.order.length;
    m.order = new int[n];
    for (int i = 0; i < n; i++) {
      m.order[i] = i;
    }
    return were;
  }

  int turn(int i, int j) {
    int one = ith(i);
    int other = ith(j);
    m.order[i] = other;
    m.order[j] = one;
    return m.order[0];
  }

  int ith(int i) {
    isThere(i);
    return m.order[i];
  }

  int brings(int part, int heir, int set) {
    isPart(part);
    range(heir, 0, 3);
    isSet(set);
    ask(Model.in(part, set), Due.STATE);
    return m.brings(part, heir, set);
  }

  int value(int heir, int set) {
    range(heir, 0, 3);
    isSet(set);
    return m.value(heir, set);
  }

  int dearest(int set) {
    isSet(set);
    return m.dearest(set);
  }

  int best(int heir, int n) {
    range(heir, 0, 3);
    range(n, 0, 9);
    ask(n <= m.parts.size(), Due.NONE);
    return m.best(heir, n);
  }

  int share(int heir, int set) {
    isThere(heir);
    isSet(set);
    return shares(set)[heir];
  }

  int gets(int heir, int set) {
    return m.value(heir, share(heir, set));
  }

  int cut(int set) {
    isSet(set);
    ask(m.order.length > 1, Due.NONE);
    return m.cut(m.order, 0, set);
  }

  private void isCut(int set, int front) {
    isSet(set);
    ask(m.isFront(set, front), Due.BEYOND);
    ask(m.order.length > 1, Due.NONE);
  }

  int takes(int set, int front) {
    isCut(set, front);
    return m.takes(set, front);
  }

  int left(int set, int front) {
    isCut(set, front);
    return m.value(m.order[0], m.cutSo(m.order, 0, set, front)[m.order[0]]);
  }

  int envy(int set) {
    isSet(set);
    int[] shares = shares(set);
    int envious = 0;
    for (int heir : m.order) {
      for (int other : m.order) {
        envious |= m.value(heir, shares[other]) > m.value(heir, shares[heir]) ? 1 << heir : 0;
      }
    }
    return envious;
  }

  int wholes(int set) {
    isSet(set);
    int whole = 0;
    for (int thing = 0; thing < 5; thing++) {
      for (int share : shares(set)) {
        whole |= (m.members(thing) & set) != 0 && (m.members(thing) & share) == m.members(thing) ? 1 << thing : 0;
      }
    }
    return whole;
  }

  int lost(int set) {
    isSet(set);
    return m.lost(set);
  }

  int seat(int heir) {
    isThere(heir);
    return m.seat(heir);
  }

  int fewer(int heir) {
    isThere(heir);
    int last = m.order.length - 1;
    ask(heir != m.order[last], Due.BEYOND);
    return m.gets(Arrays.copyOf(m.order, last), heir) - m.gets(m.order, heir);
  }

  int fair() {
    return m.fair();
  }

  int common() {
    ask(!m.parts.isEmpty(), Due.NONE);
    return m.common();
  }

  int deal() {
    int answer = m.deal();
    ask(answer >= 0, Due.NONE);
    return answer;
  }

  int gift() {
    int answer = m.gift();
    ask(answer >= 0, Due.NONE);
    return answer;
  }

  private int hasParts(int thing) {
    range(thing, 0, 4);
    ask(m.members(thing) != 0, Due.NONE);
    return m.members(thing);
  }

  int bring(int thing) {
    int members = hasParts(thing);
    int fewest = 9;
    for (int share : shares(m.all())) {
      fewest = Math.min(fewest, Integer.bitCount(members & ~share));
    }
    return fewest;
  }

  int joins(int one, int other) {
    isPart(one);
    isPart(other);
    ask(one != other, Due.BEYOND);
    return m.joins(one, other) ? 1 : 0;
  }

  private List<List<Integer>> rowsOf(int thing) {
    List<List<Integer>> rows = new ArrayList<>();
    m.rows(hasParts(thing), new ArrayList<>(), rows);
    return rows;
  }

  int rows(int thing) {
    return rowsOf(thing).size();
  }

  int row(int thing, int i) {
    range(thing, 0, 4);
    range(i, 0, 8);
    List<List<Integer>> rows = rowsOf(thing);
    ask(!rows.isEmpty() && i < rows.get(0).size(), Due.NONE);
    return rows.get(0).get(i);
  }

  int years(int n) {
    range(n, 1, 20);
    ask(m.year + n <= 99, Due.STATE);
    m.year += n;
    return m.value(m.dearest(m.all()), m.all());
  }

  int ahead(int heir, int n) {
    isThere(heir);
    range(n, 0, 20);
    ask(m.year + n <= 99, Due.STATE);
    m.year += n;
    int gets = m.gets(m.order, heir);
    m.year -= n;
    return gets;
  }

  private int draw() {
    z = z * 1103515245 + 12345;
    return z >>> 8;
  }

  int gossip(int n) {
    range(n, 1, 12);
    ask(!m.parts.isEmpty(), Due.STATE);
    for (int i = 0; i < n; i++) {
      int[] traits = m.parts.get(draw() % m.parts.size());
      int heir = draw() % 4;
      traits[4 + heir] = draw() % 100;
    }
    return m.value(0, m.all());
  }

  int seed(int v) {
    int was = z;
    z = v;
    return was;
  }

  int feed(int bytes, int n) {
    range(n, 1, 4);
    ask(tape.length() + n <= 120, Due.FULL);
    for (int i = n; i > 0; i--) {
      tape += (char) (bytes >> 8 * (i - 1) & 255);
    }
    return tape.length();
  }

  int wipe() {
    int had = tape.length();
    tape = "";
    return had;
  }

  int text() {
    tokens.clear();
    places.clear();
    next = 0;
    Matcher found = TOKEN.matcher(tape);
    while (found.find()) {
      tokens.add(found.group());
      places.add(found.start());
    }
    tokens.add("");
    places.add(tape.length());
    tape = "";
    Model before = m.copy();
    try {
      int items = 1;
      item();
      while (!tokens.get(next).isEmpty()) {
        must(is(";"));
        next++;
        item();
        items++;
      }
      return items;
    } catch (Fault fault) {
      m = before;
      return -1 - fault.place;
    }
  }

  private boolean is(String token) {
    return tokens.get(next).equals(token);
  }

  private boolean isNumber() {
    return tokens.get(next).matches("[0-9]+");
  }

  /** The NUMBER that is next: 1000 for all above 999. */
  private int told() {
    String digits = tokens.get(next).replaceFirst("^0+(?=.)", "");
    return digits.length() > 3 ? 1000 : Integer.parseInt(digits);
  }

  /** Else the next TOKEN can't stand there. */
  private void must(boolean fine) {
    if (!fine) {
      throw new Fault(places.get(next));
    }
  }

  private int number(int most) {
    must(isNumber() && told() <= most);
    int number = told();
    next++;
    return number;
  }

  private void item() {
    String word = tokens.get(next);
    must(word.equals("heirs") || word.equals("knows") || KINDS.contains(word) && m.parts.size() < 9);
    next++;
    if (word.equals("heirs")) {
      newOrder();
    } else if (word.equals("knows")) {
      m.knows[number(3)] = true;
    } else {
      newPart(KINDS.indexOf(word));
    }
  }

  private void newPart(int kind) {
    must(is("of"));
    next++;
    int[] traits = {kind, number(4), 0, 0, 10, 10, 10, 10};
    if (is("worth")) {
      next++;
      traits[4] = number(99);
      for (int what = 5; what < 8 && isNumber(); what++) {
        traits[what] = number(99);
      }
    }
    if (is("edges")) {
      next++;
      traits[2] = number(9);
      traits[3] = number(9);
    }
    m.parts.add(traits);
  }

  private void newOrder() {
    List<Integer> row = new ArrayList<>();
    must(isNumber());
    while (isNumber()) {
      must(row.size() < 4 && !row.contains(told()));
      row.add(number(3));
    }
    m.order = new int[row.size()];
    for (int i = 0; i < row.size(); i++) {
      must(row.get(i) < row.size());
      m.order[i] = row.get(i);
    }
  }

  int hold(int spot, int part) {
    range(spot, 0, 9);
    range(part, -1, m.parts.size() - 1);
    spots[spot] = part;
    return 1;
  }

  int as(int spot, int kind) {
    range(spot, 0, 9);
    range(kind, 0, 6);
    ask(spots[spot] >= 0, Due.MISSING);
    boolean under = false;
    for (int upper : Model.UNDER[m.parts.get(spots[spot])[0]]) {
      under |= upper == kind;
    }
    ask(under, Due.KIND);
    return spots[spot];
  }

  int sheet(int s, int width, int n) {
    range(s, 0, 3);
    ask(width == 0 || width == 8 || width == 16 || width == 32, Due.BEYOND);
    ask(n >= 0, Due.SIZE);
    ask(n <= 40, Due.BEYOND);
    sheets[s] = width == 0 ? null : new int[n];
    bits[s] = width;
    return width == 0 ? 0 : n;
  }

  private int[] isSheet(int s) {
    range(s, 0, 3);
    ask(sheets[s] != null, Due.MISSING);
    return sheets[s];
  }

  int write(int s, int i, int v) {
    int[] sheet = isSheet(s);
    range(i, 0, sheet.length - 1);
    int above = 32 - bits[s];
    sheet[i] = v << above >> above;
    return 1;
  }

  int copy(int s, int from, int t, int to, int n) {
    range(s, 0, 3);
    range(t, 0, 3);
    int[] one = isSheet(s);
    int[] other = isSheet(t);
    ask(bits[s] == bits[t], Due.KIND);
    ask(from >= 0 && to >= 0 && n >= 0 && from <= one.length - n && to <= other.length - n, Due.BEYOND);
    int[] were = Arrays.copyOfRange(one, from, from + n);
    for (int i = 0; i < n; i++) {
      other[to + i] = were[i];
    }
    return n;
  }

  int load(int s, int heir) {
    int[] sheet = isSheet(s);
    range(heir, 0, 3);
    int came = 0;
    while (came < sheet.length && came < m.parts.size() && sheet[came] >= 0 && sheet[came] <= 99) {
      m.parts.get(came)[4 + heir] = sheet[came];
      came++;
    }
    return came;
  }

  int judge(int s) {
    int[] sheet = isSheet(s);
    int[] shares = shares(m.all());
    int[] owners = new int[m.parts.size()];
    for (int part = 0; part < owners.length; part++) {
      owners[part] = m.owner(shares, part);
    }
    int differs = Arrays.mismatch(owners, sheet);
    return differs < 0 ? 0 : 1 + differs;
  }

  int image() {
    keptModel = m.copy();
    keptZ = z;
    keptSpots = spots.clone();
    return 1;
  }

  int undo() {
    ask(keptModel != null, Due.NONE);
    m = keptModel.copy();
    z = keptZ;
    spots = keptSpots.clone();
    return m.year;
  }

  int tear() {
    int was = keptModel == null ? 0 : 1;
    keptModel = null;
    return was;
  }

  int count(int what) {
    range(what, 0, 7);
    int things = 0;
    for (int[] traits : m.parts) {
      things |= 1 << traits[1];
    }
    int knowers = 0;
    for (int heir = 0; heir < 4; heir++) {
      knowers += m.knows[heir] ? 1 << heir : 0;
    }
    int holding = 0;
    for (int part : spots) {
      holding += part >= 0 ? 1 : 0;
    }
    return new int[] {m.year, m.parts.size(), m.order.length, things, knowers, tape.length(), z, holding}[what];
  }

  int status(int which) {
    range(which, -1, 6);
    return which >= 0 ? found[which] : Arrays.stream(found).sum();
  }
}
