import java.util.Arrays;

/** Heirlooms by halves: who inherits cuts, the next one chooses, and cuts again. */
public final class HeirHalves {
  private static final int LOW = -1000001;
  private static final int BEYOND = LOW;
  private static final int FULL = LOW - 1;
  private static final int KIND = LOW - 2;
  private static final int NONE = LOW - 3;
  private static final int STATE = LOW - 4;
  private static final int MISSING = LOW - 5;
  private static final int SIZE = LOW - 6;

  private static final int MOST_PARTS = 9;
  private static final int MOST_HEIRS = 4;
  private static final int MOST_YEARS = 99;
  private static final int MOST_WORTH = 99;
  private static final int THINGS = 5;
  private static final int KINDS = 7;
  private static final int SPOTS = 10;
  private static final int SETS = 1 << MOST_PARTS;

  private final Estate now = new Estate();
  private final Estate keptLatest = new Estate();
  private final Estate draft = new Estate();
  private final Division division = new Division(now);
  private final Chains chains = new Chains(now);
  private final Tape tape = new Tape();
  private final Sheets sheets = new Sheets();
  private final int[] found = new int[7];
  private final int[] otherOrder = new int[MOST_HEIRS];
  private boolean kept = false;

  /** All as at first. */
  public HeirHalves() {
  }

  // ---- parts

  /** A new PART: its number. */
  public int part(int kind, int thing) {
    if (!within(kind, KINDS) || !within(thing, THINGS)) {
      return finding(BEYOND);
    }
    if (now.parts >= MOST_PARTS) {
      return finding(FULL);
    }
    return now.addPart(kind, thing);
  }

  /** Of a PART its KIND, THING, EDGES or WORTHS. */
  public int of(int part, int what) {
    if (!within(part, now.parts) || !within(what, Estate.TRAITS)) {
      return finding(BEYOND);
    }
    return now.trait(part, what);
  }

  /** A trait of a PART becomes v: what it was. */
  public int change(int part, int what, int v) {
    if (!within(part, now.parts) || !within(what, Estate.TRAITS) || v < 0 || v > Estate.mostOf(what)) {
      return finding(BEYOND);
    }
    int was = now.trait(part, what);
    now.setTrait(part, what, v);
    return was;
  }

  /** PARTS of a THING, as a set. */
  public int thing(int thing) {
    if (!within(thing, THINGS)) {
      return finding(BEYOND);
    }
    return now.members[thing];
  }

  /** An HEIR KNOWS, or not: 1 if it did. */
  public int knows(int heir, boolean is) {
    if (!within(heir, MOST_HEIRS)) {
      return finding(BEYOND);
    }
    int did = (now.knowers >> heir) & 1;
    now.setKnows(heir, is);
    return did;
  }

  /** How many HEIRS there are becomes n: how many there were. */
  public int heirs(int n) {
    if (n < 1 || n > MOST_HEIRS) {
      return finding(BEYOND);
    }
    int were = now.heirs;
    now.setHeirs(n);
    return were;
  }

  /** Two places of ORDER are changed: the first HEIR then. */
  public int turn(int i, int j) {
    if (!within(i, now.heirs) || !within(j, now.heirs)) {
      return finding(BEYOND);
    }
    swap(now.order, i, j);
    return now.order[0];
  }

  /** The i-th HEIR of ORDER. */
  public int ith(int i) {
    if (!within(i, now.heirs)) {
      return finding(BEYOND);
    }
    return now.order[i];
  }

  // ---- values

  /** What a PART BRINGS to an HEIR in a SET. */
  public int brings(int part, int heir, int set) {
    if (!within(part, now.parts) || !within(heir, MOST_HEIRS) || !isSet(set)) {
      return finding(BEYOND);
    }
    if ((set >> part & 1) == 0) {
      return finding(STATE);
    }
    return now.broughtBy(part, heir, set);
  }

  /** VALUE of a SET to an HEIR. */
  public int value(int heir, int set) {
    if (!within(heir, MOST_HEIRS) || !isSet(set)) {
      return finding(BEYOND);
    }
    return now.valueTo(heir, set);
  }

  /** The HEIR to whom a SET has most VALUE. */
  public int dearest(int set) {
    if (!isSet(set)) {
      return finding(BEYOND);
    }
    return now.dearestHeir(set);
  }

  /** The SET of n PARTS that has most VALUE to an HEIR. */
  public int best(int heir, int n) {
    if (!within(heir, MOST_HEIRS) || n < 0 || n > MOST_PARTS) {
      return finding(BEYOND);
    }
    if (n > now.parts) {
      return finding(NONE);
    }
    int most = -1;
    int answer = 0;
    for (int set = 0; set <= now.all(); set++) {
      if (Integer.bitCount(set) == n) {
        int value = now.valueTo(heir, set);
        if (value > most) {
          most = value;
          answer = set;
        }
      }
    }
    return answer;
  }

  // ---- dividing

  /** What an HEIR has of a SET DIVIDED among all. */
  public int share(int heir, int set) {
    if (!within(heir, now.heirs) || !isSet(set)) {
      return finding(BEYOND);
    }
    return sharesOf(set)[heir];
  }

  /** VALUE of its SHARE to an HEIR. */
  public int gets(int heir, int set) {
    if (!within(heir, now.heirs) || !isSet(set)) {
      return finding(BEYOND);
    }
    return now.valueTo(heir, sharesOf(set)[heir]);
  }

  /** FRONT of the first CUT of a SET. */
  public int cut(int set) {
    if (!isSet(set)) {
      return finding(BEYOND);
    }
    if (now.heirs < 2) {
      return finding(NONE);
    }
    division.prepare(now.order, now.heirs, set);
    return division.bestFront(now.heirs - 1, set);
  }

  /** Which half the second one takes of a told CUT: 0 FRONT, 1 BACK. */
  public int takes(int set, int front) {
    if (!isFront(set, front)) {
      return finding(BEYOND);
    }
    if (now.heirs < 2) {
      return finding(NONE);
    }
    division.prepare(now.order, now.heirs, set);
    return division.prefersBack(now.heirs - 2, front, set & ~front) ? 1 : 0;
  }

  /** VALUE that the first one has left of a told CUT. */
  public int left(int set, int front) {
    if (!isFront(set, front)) {
      return finding(BEYOND);
    }
    if (now.heirs < 2) {
      return finding(NONE);
    }
    division.prepare(now.order, now.heirs, set);
    return division.valueLeft(now.heirs - 1, set, front);
  }

  /** HEIRS to whom another one's SHARE has more VALUE than their own. */
  public int envy(int set) {
    if (!isSet(set)) {
      return finding(BEYOND);
    }
    int[] shares = sharesOf(set);
    int envious = 0;
    for (int heir = 0; heir < now.heirs; heir++) {
      int own = now.valueTo(heir, shares[heir]);
      for (int other = 0; other < now.heirs; other++) {
        if (now.valueTo(heir, shares[other]) > own) {
          envious |= 1 << heir;
        }
      }
    }
    return envious;
  }

  /** THINGS all of whose PARTS are in one HEIR's SHARE of a SET. */
  public int wholes(int set) {
    if (!isSet(set)) {
      return finding(BEYOND);
    }
    int[] shares = sharesOf(set);
    int whole = 0;
    for (int thing = 0; thing < THINGS; thing++) {
      int members = now.members[thing];
      for (int heir = 0; heir < now.heirs; heir++) {
        if (members != 0 && (members & ~shares[heir]) == 0) {
          whole |= 1 << thing;
        }
      }
    }
    return whole;
  }

  /** By how much all SHARES have less VALUE than the SET has to dearest(). */
  public int lost(int set) {
    if (!isSet(set)) {
      return finding(BEYOND);
    }
    return lossOf(set);
  }

  // ---- orders, heirs

  /** The place in ORDER in which an HEIR would get most of all PARTS. */
  public int seat(int heir) {
    if (!within(heir, now.heirs)) {
      return finding(BEYOND);
    }
    int own = 0;
    for (int i = 0; i < now.heirs; i++) {
      own = now.order[i] == heir ? i : own;
    }
    int most = -1;
    int place = 0;
    for (int i = 0; i < now.heirs; i++) {
      System.arraycopy(now.order, 0, otherOrder, 0, MOST_HEIRS);
      swap(otherOrder, own, i);
      int gain = gainIn(otherOrder, now.heirs, heir);
      if (gain > most) {
        most = gain;
        place = i;
      }
    }
    return place;
  }

  /** By how much more an HEIR gets of all PARTS without the last of ORDER. */
  public int fewer(int heir) {
    if (!within(heir, now.heirs) || heir == now.order[now.heirs - 1]) {
      return finding(BEYOND);
    }
    int without = gainIn(now.order, now.heirs - 1, heir);
    return without - gainIn(now.order, now.heirs, heir);
  }

  /** Of all ORDERS that in which least is lost of all PARTS. */
  public int fair() {
    int codes = 1 << 2 * now.heirs;
    int most = -1;
    int answer = 0;
    for (int code = 0; code < codes; code++) {
      if (orderFrom(code)) {
        division.divide(otherOrder, now.heirs, now.all());
        int sum = sumOfShares();
        int told = digitsOfOther();
        // What the whole has to dearest() is one for all ORDERS: least lost is most gotten.
        if (sum > most || sum == most && told < answer) {
          most = sum;
          answer = told;
        }
      }
    }
    return answer;
  }

  /** The PART without which lost() of all others is least. */
  public int common() {
    if (now.parts == 0) {
      return finding(NONE);
    }
    // The tables of all PARTS serve each of the lesser SETS below.
    division.prepare(now.order, now.heirs, now.all());
    int answer = 0;
    int least = 0;
    for (int part = 0; part < now.parts; part++) {
      int loss = lossOf(now.all() & ~(1 << part));
      if (part == 0 || loss < least) {
        least = loss;
        answer = part;
      }
    }
    return answer;
  }

  // ---- changes after

  /** Two PARTS by whose change two HEIRS both have more VALUE. */
  public int deal() {
    int[] shares = sharesOf(now.all());
    for (int one = 0; one < now.parts; one++) {
      int oneHeir = ownerOf(shares, one);
      for (int other = one + 1; other < now.parts; other++) {
        int otherHeir = ownerOf(shares, other);
        int both = 1 << one | 1 << other;
        if (oneHeir != otherHeir
            && now.valueTo(oneHeir, shares[oneHeir] ^ both) > now.valueTo(oneHeir, shares[oneHeir])
            && now.valueTo(otherHeir, shares[otherHeir] ^ both) > now.valueTo(otherHeir, shares[otherHeir])) {
          return 10 * one + other;
        }
      }
    }
    return finding(NONE);
  }

  /** A PART that adds more VALUE at another HEIR's than it takes from its own. */
  public int gift() {
    int[] shares = sharesOf(now.all());
    for (int part = 0; part < now.parts; part++) {
      int heir = gainerOf(shares, part);
      if (heir >= 0) {
        return 10 * part + heir;
      }
    }
    return finding(NONE);
  }

  /** The fewest PARTS that must go to another HEIR, so that a THING is whole with one. */
  public int bring(int thing) {
    if (!within(thing, THINGS)) {
      return finding(BEYOND);
    }
    int members = now.members[thing];
    if (members == 0) {
      return finding(NONE);
    }
    int[] shares = sharesOf(now.all());
    int most = 0;
    for (int heir = 0; heir < now.heirs; heir++) {
      most = Math.max(most, Integer.bitCount(members & shares[heir]));
    }
    return Integer.bitCount(members) - most;
  }

  // ---- edges

  /** Whether the right EDGE of one PART joins the left one of another one. */
  public int joins(int one, int other) {
    if (!within(one, now.parts) || !within(other, now.parts) || one == other) {
      return finding(BEYOND);
    }
    return now.joined(one, other) ? 1 : 0;
  }

  /** In how many rows all PARTS of a THING can lie. */
  public int rows(int thing) {
    if (!within(thing, THINGS)) {
      return finding(BEYOND);
    }
    if (now.members[thing] == 0) {
      return finding(NONE);
    }
    return chains.countRows(now.members[thing]);
  }

  /** The i-th PART of the first row of a THING. */
  public int row(int thing, int i) {
    if (!within(thing, THINGS) || !within(i, MOST_PARTS)) {
      return finding(BEYOND);
    }
    int members = now.members[thing];
    if (i >= Integer.bitCount(members) || chains.countRows(members) == 0) {
      return finding(NONE);
    }
    return chains.partOfFirstRow(members, i);
  }

  // ---- years

  /** n YEARS go: VALUE of all PARTS to dearest() then. */
  public int years(int n) {
    if (n < 1 || n > 20) {
      return finding(BEYOND);
    }
    if (now.year + n > MOST_YEARS) {
      return finding(STATE);
    }
    now.setYear(now.year + n);
    return now.valueTo(now.dearestHeir(now.all()), now.all());
  }

  /** What an HEIR gets of all PARTS behind n YEARS; nothing changes. */
  public int ahead(int heir, int n) {
    if (!within(heir, now.heirs) || n < 0 || n > 20) {
      return finding(BEYOND);
    }
    if (now.year + n > MOST_YEARS) {
      return finding(STATE);
    }
    int year = now.year;
    now.setYear(year + n);
    int gain = gainIn(now.order, now.heirs, heir);
    now.setYear(year);
    return gain;
  }

  /** n WORTHS become others by draws: VALUE of all PARTS to HEIR 0 then. */
  public int gossip(int n) {
    if (n < 1 || n > 12) {
      return finding(BEYOND);
    }
    if (now.parts == 0) {
      return finding(STATE);
    }
    for (int i = 0; i < n; i++) {
      int part = now.draw() % now.parts;
      int heir = now.draw() % MOST_HEIRS;
      now.setTrait(part, Estate.WORTH + heir, now.draw() % (MOST_WORTH + 1));
    }
    return now.valueTo(0, now.all());
  }

  /** z becomes v: what it was. */
  public int seed(int v) {
    int was = now.z;
    now.z = v;
    return was;
  }

  // ---- texts

  /** THE TAPE gets the n lowest bytes of a number behind it: how many it has. */
  public int feed(int bytes, int n) {
    if (n < 1 || n > 4) {
      return finding(BEYOND);
    }
    if (tape.length + n > Tape.MOST) {
      return finding(FULL);
    }
    for (int i = n - 1; i >= 0; i--) {
      tape.add(bytes >>> 8 * i & 255);
    }
    return tape.length;
  }

  /** THE TAPE is empty: how many bytes it had. */
  public int wipe() {
    int had = tape.length;
    tape.clear();
    return had;
  }

  /** All that THE TAPE's TEXT tells is so: how many ITEMS, or -1 less the FAULT. */
  public int text() {
    draft.become(now);
    int answer = tape.read(draft);
    tape.clear();
    if (answer >= 0) {
      now.become(draft);
    }
    return answer;
  }

  // ---- spots, sheets

  /** A SPOT holds a PART, or nothing (-1). */
  public int hold(int spot, int part) {
    if (!within(spot, SPOTS) || part < -1 || part >= now.parts) {
      return finding(BEYOND);
    }
    now.spots[spot] = part;
    return 1;
  }

  /** The PART that a SPOT holds, as one of a kind. */
  public int as(int spot, int kind) {
    if (!within(spot, SPOTS) || !within(kind, KINDS)) {
      return finding(BEYOND);
    }
    int part = now.spots[spot];
    if (!within(part, now.parts)) {
      return finding(MISSING);
    }
    if (!Estate.isUnder(now.trait(part, Estate.KIND_OF), kind)) {
      return finding(KIND);
    }
    return part;
  }

  /** A sheet has n numbers, all 0, of so many bits; or is MISSING. */
  public int sheet(int s, int bits, int n) {
    if (!within(s, Sheets.MANY) || bits != 0 && bits != 8 && bits != 16 && bits != 32) {
      return finding(BEYOND);
    }
    if (n < 0) {
      return finding(SIZE);
    }
    if (n > Sheets.LONGEST) {
      return finding(BEYOND);
    }
    sheets.lay(s, bits, n);
    return sheets.sizes[s];
  }

  /** Number i of a sheet becomes v. */
  public int write(int s, int i, int v) {
    if (!within(s, Sheets.MANY)) {
      return finding(BEYOND);
    }
    if (sheets.bits[s] == 0) {
      return finding(MISSING);
    }
    if (!within(i, sheets.sizes[s])) {
      return finding(BEYOND);
    }
    sheets.put(s, i, v);
    return 1;
  }

  /** n numbers of a sheet come to another one. */
  public int copy(int s, int from, int t, int to, int n) {
    if (!within(s, Sheets.MANY) || !within(t, Sheets.MANY)) {
      return finding(BEYOND);
    }
    if (sheets.bits[s] == 0 || sheets.bits[t] == 0) {
      return finding(MISSING);
    }
    if (sheets.bits[s] != sheets.bits[t]) {
      return finding(KIND);
    }
    if (!sheets.hasRange(s, from, n) || !sheets.hasRange(t, to, n)) {
      return finding(BEYOND);
    }
    sheets.move(s, from, t, to, n);
    return n;
  }

  /** Numbers of a sheet become WORTHS of PARTS to an HEIR: how many came. */
  public int load(int s, int heir) {
    if (!within(s, Sheets.MANY)) {
      return finding(BEYOND);
    }
    if (sheets.bits[s] == 0) {
      return finding(MISSING);
    }
    if (!within(heir, MOST_HEIRS)) {
      return finding(BEYOND);
    }
    int most = Math.min(sheets.sizes[s], now.parts);
    for (int i = 0; i < most; i++) {
      int worth = sheets.number(s, i);
      if (worth < 0 || worth > MOST_WORTH) {
        return i;
      }
      now.setTrait(i, Estate.WORTH + heir, worth);
    }
    return most;
  }

  /** THE READER: whether a sheet tells who has the PARTS. */
  public int judge(int s) {
    if (!within(s, Sheets.MANY)) {
      return finding(BEYOND);
    }
    if (sheets.bits[s] == 0) {
      return finding(MISSING);
    }
    int[] shares = sharesOf(now.all());
    int size = sheets.sizes[s];
    int most = Math.min(size, now.parts);
    int right = 0;
    while (right < most && sheets.number(s, right) == ownerOf(shares, right)) {
      right++;
    }
    return right == now.parts && right == size ? 0 : 1 + right;
  }

  // ---- images

  /** All but THE TAPE and SHEETS is kept. */
  public int image() {
    keptLatest.become(now);
    kept = true;
    return 1;
  }

  /** It becomes what was kept latest: YEAR. */
  public int undo() {
    if (!kept) {
      return finding(NONE);
    }
    now.become(keptLatest);
    return now.year;
  }

  /** Nothing is kept: 1 if something was. */
  public int tear() {
    int was = kept ? 1 : 0;
    kept = false;
    return was;
  }

  /** Tells the state in numbers. */
  public int count(int what) {
    switch (what) {
      case 0: return now.year;
      case 1: return now.parts;
      case 2: return now.heirs;
      case 3: return now.thingsThere();
      case 4: return now.knowers;
      case 5: return tape.length;
      case 6: return now.z;
      case 7: return now.spotsInUse();
      default: return finding(BEYOND);
    }
  }

  /** How many acts answered a finding ever. */
  public int status(int which) {
    if (which < -1 || which >= found.length) {
      return finding(BEYOND);
    }
    if (which >= 0) {
      return found[which];
    }
    int sum = 0;
    for (int many : found) {
      sum += many;
    }
    return sum;
  }

  // ---- helpers of the acts

  private int finding(int answer) {
    int which = LOW - answer;
    if (within(which, found.length)) {
      found[which]++;
    }
    return answer;
  }

  private static boolean within(int index, int bound) {
    return index >= 0 && index < bound;
  }

  private boolean isSet(int set) {
    return (set & ~now.all()) == 0;
  }

  private boolean isFront(int set, int front) {
    int least = set & -set;
    return isSet(set) && (front & ~set) == 0 && (front & least) == least;
  }

  private static void swap(int[] places, int i, int j) {
    if (within(i, places.length) && within(j, places.length)) {
      int one = places[i];
      places[i] = places[j];
      places[j] = one;
    }
  }

  private int[] sharesOf(int set) {
    division.divide(now.order, now.heirs, set);
    return division.shares;
  }

  private int gainIn(int[] order, int length, int heir) {
    division.divide(order, length, now.all());
    return now.valueTo(heir, division.shares[heir]);
  }

  private int sumOfShares() {
    int sum = 0;
    for (int heir = 0; heir < now.heirs; heir++) {
      sum += now.valueTo(heir, division.shares[heir]);
    }
    return sum;
  }

  private int lossOf(int set) {
    division.divide(now.order, now.heirs, set);
    return now.valueTo(now.dearestHeir(set), set) - sumOfShares();
  }

  /** Puts the ORDER that a code tells, two bits an HEIR, into otherOrder: whether it is one. */
  private boolean orderFrom(int code) {
    int told = 0;
    for (int i = 0; i < now.heirs; i++) {
      // The last HEIR is foremost in the code, so that ORDERS alike at their end come in turn,
      // and the tables of those at the end serve them all.
      otherOrder[i] = code >> 2 * i & 3;
      told |= 1 << otherOrder[i];
    }
    return told == (1 << now.heirs) - 1;
  }

  private int digitsOfOther() {
    int told = 0;
    for (int i = 0; i < now.heirs; i++) {
      told = told * 10 + otherOrder[i];
    }
    return told;
  }

  private int ownerOf(int[] shares, int part) {
    for (int heir = 0; heir < now.heirs; heir++) {
      if ((shares[heir] >> part & 1) == 1) {
        return heir;
      }
    }
    return 0;
  }

  /** The HEIR by whom a PART gains most, if more than it takes from its own one: else -1. */
  private int gainerOf(int[] shares, int part) {
    int bit = 1 << part;
    int owner = ownerOf(shares, part);
    int most = now.valueTo(owner, shares[owner]) - now.valueTo(owner, shares[owner] & ~bit);
    int gainer = -1;
    for (int heir = 0; heir < now.heirs; heir++) {
      int gain = now.valueTo(heir, shares[heir] | bit) - now.valueTo(heir, shares[heir]);
      if (heir != owner && gain > most) {
        most = gain;
        gainer = heir;
      }
    }
    return gainer;
  }

  /** All that an image keeps. */
  private static final class Estate {
    private static final int TRAITS = 8;
    private static final int KIND_OF = 0;
    private static final int THING_OF = 1;
    private static final int LEFT = 2;
    private static final int RIGHT = 3;
    private static final int WORTH = 4;

    private static final int PAIR = 1;
    private static final int LIVING = 2;
    private static final int WHOLE = 3;
    private static final int HOURLY = 4;
    private static final int FEIGNED = 5;
    private static final int GLUED = 6;

    private final int[] traits = new int[MOST_PARTS * TRAITS];
    private final int[] members = new int[THINGS];
    private final int[] order = new int[MOST_HEIRS];
    private final int[] spots = new int[SPOTS];
    private int parts = 0;
    private int knowers = 0;
    private int year = 0;
    private int heirs = 0;
    private int z = 1;
    // Tells whoever keeps tables of VALUES that they are old.
    private int changes = 0;

    Estate() {
      setHeirs(2);
      Arrays.fill(spots, -1);
    }

    /** The most that a trait may be. */
    private static int mostOf(int what) {
      switch (what) {
        case KIND_OF: return KINDS - 1;
        case THING_OF: return THINGS - 1;
        case LEFT: return 9;
        case RIGHT: return 9;
        default: return MOST_WORTH;
      }
    }

    /** The KIND above one; -1 above PART. */
    private static int above(int kind) {
      switch (kind) {
        case PAIR: return 0;
        case LIVING: return 0;
        case WHOLE: return PAIR;
        case HOURLY: return LIVING;
        case FEIGNED: return 0;
        case GLUED: return FEIGNED;
        default: return -1;
      }
    }

    private static boolean isUnder(int kind, int upper) {
      int at = kind;
      for (int level = 0; level < KINDS && at >= 0; level++) {
        if (at == upper) {
          return true;
        }
        at = above(at);
      }
      return false;
    }

    private void become(Estate other) {
      System.arraycopy(other.traits, 0, traits, 0, traits.length);
      System.arraycopy(other.members, 0, members, 0, members.length);
      System.arraycopy(other.order, 0, order, 0, order.length);
      System.arraycopy(other.spots, 0, spots, 0, spots.length);
      parts = other.parts;
      knowers = other.knowers;
      year = other.year;
      heirs = other.heirs;
      z = other.z;
      changes++;
    }

    private int all() {
      return (1 << parts) - 1;
    }

    private int trait(int part, int what) {
      return traits[part * TRAITS + what];
    }

    private void setTrait(int part, int what, int v) {
      if (what == THING_OF) {
        members[trait(part, THING_OF)] &= ~(1 << part);
        members[v] |= 1 << part;
      }
      traits[part * TRAITS + what] = v;
      changes++;
    }

    /** A new PART, where there is room for one: its number. */
    private int addPart(int kind, int thing) {
      int part = parts;
      parts++;
      for (int what = 0; what < TRAITS; what++) {
        traits[part * TRAITS + what] = what < WORTH ? 0 : 10;
      }
      setTrait(part, KIND_OF, kind);
      setTrait(part, THING_OF, thing);
      return part;
    }

    private void setKnows(int heir, boolean is) {
      knowers = is ? knowers | 1 << heir : knowers & ~(1 << heir);
      changes++;
    }

    private void setHeirs(int n) {
      heirs = n;
      for (int i = 0; i < MOST_HEIRS; i++) {
        order[i] = i;
      }
      changes++;
    }

    private void setYear(int v) {
      year = v;
      changes++;
    }

    private int draw() {
      z = z * 1103515245 + 12345;
      return z >>> 8;
    }

    private int thingsThere() {
      int there = 0;
      for (int thing = 0; thing < THINGS; thing++) {
        there |= members[thing] == 0 ? 0 : 1 << thing;
      }
      return there;
    }

    private int spotsInUse() {
      int many = 0;
      for (int part : spots) {
        many += part < 0 ? 0 : 1;
      }
      return many;
    }

    private boolean joined(int one, int other) {
      return trait(one, THING_OF) == trait(other, THING_OF) && trait(one, RIGHT) == trait(other, LEFT);
    }

    /** What a PART BRINGS to an HEIR in a SET that it is in. */
    private int broughtBy(int part, int heir, int set) {
      int worth = traits[part * TRAITS + WORTH + heir];
      int thing = members[traits[part * TRAITS + THING_OF]];
      boolean mate = (set & thing & ~(1 << part)) != 0;
      int paired = mate ? worth + worth : worth;
      int living = worth > year ? worth - year : 0;
      int feigned = (knowers >> heir & 1) == 1 ? 0 : worth;
      switch (traits[part * TRAITS + KIND_OF]) {
        case PAIR: return paired;
        case LIVING: return living;
        case WHOLE: return (thing & ~set) == 0 ? paired : 0;
        case HOURLY: return Integer.bitCount(set) >= 4 ? living / 2 : living;
        case FEIGNED: return feigned;
        case GLUED: return mate ? feigned + 5 : feigned;
        default: return worth;
      }
    }

    private int valueTo(int heir, int set) {
      int sum = 0;
      for (int part = 0; part < parts; part++) {
        if ((set >> part & 1) == 1) {
          sum += broughtBy(part, heir, set);
        }
      }
      return sum;
    }

    private int dearestHeir(int set) {
      int most = -1;
      int answer = 0;
      for (int heir = 0; heir < heirs; heir++) {
        int value = valueTo(heir, set);
        if (value > most) {
          most = value;
          answer = heir;
        }
      }
      return answer;
    }
  }

  /** DIVIDES SETS among a row of HEIRS, by tables that are used again while nothing changes. */
  private static final class Division {
    private final Estate estate;
    // VALUE of a SET to an HEIR: at HEIR * SETS + SET.
    private final int[] values = new int[MOST_HEIRS * SETS];
    // What one gets of a SET DIVIDED among it and those behind: at how many are behind * SETS + SET.
    private final int[] gains = new int[MOST_HEIRS * SETS];
    // The row, the last one at 0.
    private final int[] lasts = new int[MOST_HEIRS];
    private final int[] shares = new int[MOST_HEIRS];
    private int seen = -1;
    private int cover = 0;
    private int built = 0;

    Division(Estate estate) {
      this.estate = estate;
    }

    /** Makes SHARES of a SET among the first ones of an order. */
    private void divide(int[] order, int length, int set) {
      prepare(order, length, set);
      Arrays.fill(shares, 0);
      int rest = set;
      for (int behind = length - 1; behind > 0; behind--) {
        int front = bestFront(behind, rest);
        int back = rest & ~front;
        boolean takesBack = prefersBack(behind - 1, front, back);
        shares[lasts[behind]] = takesBack ? front : back;
        rest = takesBack ? back : front;
      }
      shares[lasts[0]] = rest;
    }

    /** Makes the tables by which a SET, or a lesser one, is DIVIDED. */
    private void prepare(int[] order, int length, int set) {
      if (seen != estate.changes || (set & ~cover) != 0) {
        tellValues(set);
      }
      for (int behind = 0; behind < length; behind++) {
        int heir = order[length - 1 - behind];
        if (behind >= built || lasts[behind] != heir) {
          lasts[behind] = heir;
          built = behind;
          // The first one of the row needs no table: it is asked for one SET alone.
          if (behind < length - 1) {
            tellGains(behind);
            built = behind + 1;
          }
        }
      }
    }

    private void tellValues(int set) {
      seen = estate.changes;
      cover = set;
      built = 0;
      int ways = 1 << Integer.bitCount(cover);
      int sub = 0;
      for (int way = 0; way < ways; way++) {
        for (int heir = 0; heir < estate.heirs; heir++) {
          values[heir * SETS + sub] = estate.valueTo(heir, sub);
        }
        sub = nextWithin(sub, cover);
      }
    }

    private void tellGains(int behind) {
      int ways = 1 << Integer.bitCount(cover);
      int sub = 0;
      for (int way = 0; way < ways; way++) {
        gains[behind * SETS + sub] = behind == 0
            ? values[lasts[0] * SETS + sub]
            : valueLeft(behind, sub, bestFront(behind, sub));
        sub = nextWithin(sub, cover);
      }
    }

    /** The next SET by number of those within one; behind the last of them 0. */
    private static int nextWithin(int sub, int whole) {
      return sub - whole & whole;
    }

    /** FRONT of the CUT by one with so many (1 at least) behind. */
    private int bestFront(int behind, int set) {
      int own = lasts[behind] * SETS;
      int next = (behind - 1) * SETS;
      int least = set & -set;
      int others = set & ~least;
      int ways = 1 << Integer.bitCount(others);
      int most = -1;
      int answer = least;
      int sub = 0;
      for (int way = 0; way < ways; way++) {
        // As valueLeft() tells it; here by itself, for nothing is asked oftener.
        int front = least | sub;
        int back = others & ~sub;
        int value = values[own + (gains[next + back] > gains[next + front] ? front : back)];
        if (value > most) {
          most = value;
          answer = front;
        }
        sub = nextWithin(sub, others);
      }
      return answer;
    }

    /** VALUE of the half that the next one leaves to one with so many behind. */
    private int valueLeft(int behind, int set, int front) {
      int back = set & ~front;
      int half = prefersBack(behind - 1, front, back) ? front : back;
      return values[lasts[behind] * SETS + half];
    }

    private boolean prefersBack(int behind, int front, int back) {
      return gains[behind * SETS + back] > gains[behind * SETS + front];
    }
  }

  /** Rows in which PARTS of a THING lie, each joined to the next. */
  private static final class Chains {
    private final Estate estate;
    // In how many rows a SET can lie from a PART on: at SET * MOST_PARTS + PART.
    private final int[] ways = new int[SETS * MOST_PARTS];

    Chains(Estate estate) {
      this.estate = estate;
    }

    private int countRows(int members) {
      for (int set = 1; set <= members; set++) {
        if ((set & ~members) == 0) {
          tellWays(set);
        }
      }
      int sum = 0;
      for (int part = 0; part < estate.parts; part++) {
        sum += (members >> part & 1) == 1 ? ways[members * MOST_PARTS + part] : 0;
      }
      return sum;
    }

    private void tellWays(int set) {
      for (int first = 0; first < estate.parts; first++) {
        if ((set >> first & 1) == 1) {
          ways[set * MOST_PARTS + first] = waysFrom(first, set & ~(1 << first));
        }
      }
    }

    private int waysFrom(int first, int others) {
      if (others == 0) {
        return 1;
      }
      int sum = 0;
      for (int next = 0; next < estate.parts; next++) {
        if ((others >> next & 1) == 1 && estate.joined(first, next)) {
          sum += ways[others * MOST_PARTS + next];
        }
      }
      return sum;
    }

    /** The i-th PART of the first row, behind countRows() of the same PARTS that found one. */
    private int partOfFirstRow(int members, int i) {
      int others = members;
      int last = -1;
      for (int place = 0; place <= i; place++) {
        int next = firstBehind(last, others);
        if (next < 0) {
          return last;
        }
        last = next;
        others &= ~(1 << last);
      }
      return last;
    }

    private int firstBehind(int last, int others) {
      for (int part = 0; part < estate.parts; part++) {
        if ((others >> part & 1) == 1 && ways[others * MOST_PARTS + part] > 0
            && (last < 0 || estate.joined(last, part))) {
          return part;
        }
      }
      return -1;
    }
  }

  /** THE TAPE, and how a TEXT is read from it. */
  private static final class Tape {
    private static final int MOST = 120;

    private static final int END = 0;
    private static final int WORD = 1;
    private static final int NUMBER = 2;
    private static final int SIGN = 3;
    private static final int OTHER = 4;

    // Words by number: the KINDS first, each by its own.
    private static final int OF = 7;
    private static final int WORTHS = 8;
    private static final int EDGES = 9;
    private static final int HEIRS = 10;
    private static final int KNOWS = 11;
    private static final int UNKNOWN = 12;

    private final int[] bytes = new int[MOST];
    private int length = 0;
    // Of each TOKEN, and of the end behind them: its first byte, its sort, its number.
    private final int[] starts = new int[MOST + 1];
    private final int[] sorts = new int[MOST + 1];
    private final int[] numbers = new int[MOST + 1];
    private final int[] told = new int[MOST_HEIRS];
    // The TOKEN that is looked at.
    private int at = 0;

    Tape() {
    }

    private void add(int b) {
      if (length < MOST) {
        bytes[length] = b;
        length++;
      }
    }

    private void clear() {
      length = 0;
    }

    /** Does in an estate what the TEXT tells: how many ITEMS, or -1 less the FAULT. */
    private int read(Estate estate) {
      splitIntoTokens();
      at = 0;
      int items = 0;
      while (items < MOST && readItem(estate)) {
        items++;
        if (sorts[at] == END) {
          return items;
        }
        if (sorts[at] != SIGN) {
          return -1 - starts[at];
        }
        next();
      }
      return -1 - starts[at];
    }

    // Each of these answers false with the TOKEN at fault looked at, true with the one behind.

    private boolean readItem(Estate estate) {
      if (sorts[at] != WORD) {
        return false;
      }
      if (numbers[at] < KINDS) {
        return readPart(estate);
      }
      if (isWord(HEIRS)) {
        return readHeirs(estate);
      }
      return isWord(KNOWS) && readKnows(estate);
    }

    private boolean readPart(Estate estate) {
      if (estate.parts >= MOST_PARTS) {
        return false;
      }
      int kind = numbers[at];
      next();
      if (!isWord(OF)) {
        return false;
      }
      next();
      if (!isNumber(THINGS - 1)) {
        return false;
      }
      int part = estate.addPart(kind, numbers[at]);
      next();
      if (isWord(WORTHS) && !readTraits(estate, part, Estate.WORTH, MOST_HEIRS, 1)) {
        return false;
      }
      return !isWord(EDGES) || readTraits(estate, part, Estate.LEFT, 2, 2);
    }

    /** Behind a WORD: numbers, at most and at least so many, for traits of a PART from one on. */
    private boolean readTraits(Estate estate, int part, int first, int most, int least) {
      next();
      int many = 0;
      while (many < most && sorts[at] == NUMBER) {
        if (!isNumber(Estate.mostOf(first + many))) {
          return false;
        }
        estate.setTrait(part, first + many, numbers[at]);
        many++;
        next();
      }
      return many >= least;
    }

    private boolean readHeirs(Estate estate) {
      next();
      int set = 0;
      int many = 0;
      while (many < MOST_HEIRS && sorts[at] == NUMBER) {
        if (!isNumber(MOST_HEIRS - 1) || (set >> numbers[at] & 1) == 1) {
          return false;
        }
        set |= 1 << numbers[at];
        told[many] = numbers[at];
        many++;
        next();
      }
      // Only behind them all it is clear how many they are.
      if (many == 0 || set != (1 << many) - 1) {
        return false;
      }
      estate.setHeirs(many);
      System.arraycopy(told, 0, estate.order, 0, many);
      return true;
    }

    private boolean readKnows(Estate estate) {
      next();
      if (!isNumber(MOST_HEIRS - 1)) {
        return false;
      }
      estate.setKnows(numbers[at], true);
      next();
      return true;
    }

    private boolean isWord(int which) {
      return sorts[at] == WORD && numbers[at] == which;
    }

    private boolean isNumber(int most) {
      return sorts[at] == NUMBER && numbers[at] <= most;
    }

    /** Looks at the next TOKEN; the end has none behind it. */
    private void next() {
      if (at < MOST && sorts[at] != END) {
        at++;
      }
    }

    private void splitIntoTokens() {
      int many = 0;
      int behind = 0;
      for (int place = 0; place < length; place++) {
        if (place >= behind && bytes[place] != ' ') {
          starts[many] = place;
          behind = splitOff(many, place);
          many++;
        }
      }
      starts[many] = length;
      sorts[many] = END;
      numbers[many] = 0;
    }

    /** Tells the TOKEN that begins at a place: the place behind it. */
    private int splitOff(int token, int from) {
      int sort = sortOf(bytes[from]);
      int number = 0;
      int behind = from + 1;
      if (sort == WORD || sort == NUMBER) {
        while (behind < length && sortOf(bytes[behind]) == sort) {
          behind++;
        }
        number = sort == WORD ? wordNumber(from, behind) : numberIn(from, behind);
      }
      sorts[token] = sort;
      numbers[token] = number;
      return behind;
    }

    private static int sortOf(int b) {
      if (b >= 'a' && b <= 'z') {
        return WORD;
      }
      if (b >= '0' && b <= '9') {
        return NUMBER;
      }
      return b == ';' ? SIGN : OTHER;
    }

    private int numberIn(int from, int behind) {
      int number = 0;
      for (int i = from; i < behind; i++) {
        // One above 999 stands nowhere, however far above it is.
        number = Math.min(1000, number * 10 + bytes[i] - '0');
      }
      return number;
    }

    private int wordNumber(int from, int behind) {
      if (says("part", from, behind)) return 0;
      if (says("pair", from, behind)) return Estate.PAIR;
      if (says("living", from, behind)) return Estate.LIVING;
      if (says("whole", from, behind)) return Estate.WHOLE;
      if (says("hourly", from, behind)) return Estate.HOURLY;
      if (says("feigned", from, behind)) return Estate.FEIGNED;
      if (says("glued", from, behind)) return Estate.GLUED;
      if (says("of", from, behind)) return OF;
      if (says("worth", from, behind)) return WORTHS;
      if (says("edges", from, behind)) return EDGES;
      if (says("heirs", from, behind)) return HEIRS;
      return says("knows", from, behind) ? KNOWS : UNKNOWN;
    }

    private boolean says(String word, int from, int behind) {
      if (behind - from != word.length()) {
        return false;
      }
      for (int i = 0; i < word.length(); i++) {
        if (bytes[from + i] != word.charAt(i)) {
          return false;
        }
      }
      return true;
    }
  }

  /** SHEETS: rows of numbers of so many bits; of 0 bits: MISSING. */
  private static final class Sheets {
    private static final int MANY = 4;
    private static final int LONGEST = 40;

    private final int[] numbers = new int[MANY * LONGEST];
    private final int[] bits = new int[MANY];
    private final int[] sizes = new int[MANY];

    Sheets() {
    }

    private void lay(int s, int width, int n) {
      bits[s] = width;
      sizes[s] = width == 0 ? 0 : n;
      for (int i = 0; i < LONGEST; i++) {
        numbers[s * LONGEST + i] = 0;
      }
    }

    private int number(int s, int i) {
      return numbers[s * LONGEST + i];
    }

    private void put(int s, int i, int v) {
      numbers[s * LONGEST + i] = bits[s] == 8 ? (byte) v : bits[s] == 16 ? (short) v : v;
    }

    private boolean hasRange(int s, int from, int n) {
      return from >= 0 && n >= 0 && (long) from + n <= sizes[s];
    }

    private void move(int s, int from, int t, int to, int n) {
      System.arraycopy(numbers, s * LONGEST + from, numbers, t * LONGEST + to, n);
    }
  }
}
