import java.lang.reflect.InvocationTargetException;
import java.lang.reflect.Method;
import java.lang.reflect.Modifier;
import java.util.ArrayList;
import java.util.List;

/** Any calls with any numbers: none throws, findings alone are counted and change nothing else; the face is the document's. */
final class AnyCallsTest {
  private static final String FACE = "part2 of2 change3 thing1 knows2 heirs1 turn2 ith1 brings3 value2 dearest1 best2 "
      + "share2 gets2 cut1 takes2 left2 envy1 wholes1 lost1 seat1 fewer1 fair0 common0 deal0 gift0 bring1 joins2 rows1 "
      + "row2 years1 ahead2 gossip1 seed1 feed2 wipe0 text0 hold2 as2 sheet3 write3 copy5 load2 judge1 image0 undo0 "
      + "tear0 count1 status1";
  private static final int[] ODD = {Integer.MIN_VALUE, Integer.MAX_VALUE, -1, -2, -1000001, 511, 512, 1023, 9, 10, 40,
      41, 99, 100, 8, 16, 32, 1 << 30};

  public static void main(String[] args) throws IllegalAccessException {
    List<Method> acts = face();
    for (int i = 0; i < 600; i++) {
      run(acts);
    }
    Due.end("AnyCallsTest");
  }

  private static List<Method> face() {
    List<Method> acts = new ArrayList<>();
    List<String> due = List.of(FACE.split(" "));
    for (Method m : HeirHalves.class.getDeclaredMethods()) {
      if (!Modifier.isPrivate(m.getModifiers())) {
        String told = m.getName() + m.getParameterCount();
        boolean plain = Modifier.isPublic(m.getModifiers()) && !Modifier.isStatic(m.getModifiers())
            && m.getReturnType() == int.class;
        Due.due("the face has " + told, due.contains(told) && plain ? 1 : 0, 1);
        acts.add(m);
      }
    }
    acts.sort((a, b) -> a.getName().compareTo(b.getName()));
    Due.due("acts", acts.size(), due.size());
    Due.due("constructors", HeirHalves.class.getConstructors().length, 1);
    return acts;
  }

  private static void run(List<Method> acts) throws IllegalAccessException {
    HeirHalves x = new HeirHalves();
    int parts = Due.draw(10);
    for (int p = 0; p < parts; p++) {
      x.part(Due.draw(7), Due.draw(5));
    }
    x.heirs(1 + Due.draw(4));
    int found = x.status(-1);
    for (int call = 0; call < 400; call++) {
      Method act = acts.get(Due.draw(acts.size()));
      Object[] told = new Object[act.getParameterCount()];
      for (int i = 0; i < told.length; i++) {
        told[i] = act.getParameterTypes()[i] == boolean.class ? (Object) (Due.draw(2) == 0) : (Object) number();
      }
      int[] before = state(x);
      int answer = callOf(act, x, told);
      boolean tellsZ = act.getName().equals("seed") || act.getName().equals("count") && (Integer) told[0] == 6;
      if (answer < -1000000 && !tellsZ) {
        found++;
        int[] after = state(x);
        for (int i = 0; i < after.length; i++) {
          Due.due(act.getName() + " with a finding, state " + i, after[i], before[i]);
        }
      }
      Due.due("findings behind " + act.getName(), x.status(-1), found);
    }
  }

  private static int callOf(Method act, HeirHalves x, Object[] told) throws IllegalAccessException {
    try {
      return (Integer) act.invoke(x, told);
    } catch (InvocationTargetException e) {
      Due.due(act.getName() + " throws " + e.getCause(), 1, 0);
      return 0;
    }
  }

  /** All that acts without a finding tell of the state. */
  private static int[] state(HeirHalves x) {
    int parts = x.count(1);
    int[] state = new int[8 + 4 + 8 * 9];
    for (int what = 0; what < 8; what++) {
      state[what] = x.count(what);
    }
    for (int i = 0; i < x.count(2); i++) {
      state[8 + i] = x.ith(i);
    }
    for (int p = 0; p < parts; p++) {
      for (int what = 0; what < 8; what++) {
        state[12 + 8 * p + what] = x.of(p, what);
      }
    }
    return state;
  }

  private static Integer number() {
    switch (Due.draw(8)) {
      case 0: return ODD[Due.draw(ODD.length)];
      case 1: return Due.draw(1 << 24) * 256 + Due.draw(256);
      case 2: return Due.draw(100);
      case 3: return Due.draw(512);
      default: return Due.draw(5);
    }
  }
}
