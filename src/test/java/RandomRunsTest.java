import java.lang.reflect.InvocationTargetException;
import java.lang.reflect.Method;
import java.util.ArrayList;
import java.util.Arrays;
import java.util.Collections;
import java.util.Comparator;
import java.util.List;
import java.util.Map;
import java.util.Random;
import java.util.TreeMap;

/** Runs of 512 calls, drawn with fixed seeds, answered by the class and by PlainOffice alike. */
final class RandomRunsTest {
  private static final int RUNS = Integer.getInteger("runs", 60);
  private static final int CALLS = 512;
  private static final Map<String, Integer> SEEN = new TreeMap<>();

  private RandomRunsTest() {
  }

  private static List<Method> calls() {
    List<Method> calls = new ArrayList<>();
    for (Method method : DesignsOffice.class.getMethods()) {
      if (method.getDeclaringClass() == DesignsOffice.class && !method.getName().equals("isTrue")) {
        calls.add(method);
      }
    }
    calls.sort(Comparator.comparing(Method::getName));
    return calls;
  }

  private static Object answer(Object office, Method call, Object[] arguments) throws Exception {
    Class<?>[] types = call.getParameterTypes();
    Method own = office.getClass().getDeclaredMethod(call.getName(), types);
    try {
      return own.invoke(office, arguments);
    } catch (InvocationTargetException e) {
      if (e.getCause() instanceof Error) {
        throw (Error) e.getCause();
      }
      return e.getCause().getClass().getSimpleName();
    }
  }

  /** Mostly small numbers, now and then an edge or far beyond. */
  private static int number(Random random) {
    int kind = random.nextInt(40);
    if (kind == 0) {
      return new int[] {-1, Integer.MIN_VALUE, Integer.MAX_VALUE, 31, 32, 160, 64}[random.nextInt(7)];
    }
    return kind < 8 ? random.nextInt(32) : random.nextInt(kind < 24 ? 10 : 4);
  }

  private static int slot(Random random, int slots) {
    return random.nextInt(60) == 0 ? (random.nextBoolean() ? -1 : slots) : random.nextInt(slots);
  }

  private static int bits(Random random, int points) {
    if (random.nextInt(40) == 0) {
      return random.nextInt();
    }
    int most = points < 1 || points > 31 ? 8 : points;
    int bits = 0;
    int size = 1 + random.nextInt(3);
    for (int i = 0; i < size; i++) {
      bits |= 1 << random.nextInt(most);
    }
    return bits;
  }

  private static int held(PlainOffice plain, int slot) {
    try {
      return plain.points(slot);
    } catch (RuntimeException e) {
      return 8;
    }
  }

  private static Object[] arguments(Method call, Random random, PlainOffice plain) {
    Class<?>[] types = call.getParameterTypes();
    Object[] arguments = new Object[types.length];
    for (int i = 0; i < types.length; i++) {
      if (types[i] == boolean.class) {
        arguments[i] = random.nextBoolean();
      } else if (types[i] == char.class) {
        String common = "0123456789012345678901234567890123456789;;;;;;,,,,,,,,::x ";
        arguments[i] = random.nextInt(60) == 0 ? (char) random.nextInt(400)
            : common.charAt(random.nextInt(common.length()));
      } else {
        arguments[i] = number(random);
      }
    }
    narrow(call.getName(), arguments, random, plain);
    return arguments;
  }

  private static void narrow(String name, Object[] arguments, Random random, PlainOffice plain) {
    int slots = Arrays.asList("doubled", "primes", "sign", "flip", "areRowsApart", "designOf").contains(name) ? 3 : 6;
    boolean isWithoutSlot = Arrays.asList("plays", "isHome", "breaks", "setting", "unmet", "cause", "type")
        .contains(name);
    if (arguments.length > 0 && !isWithoutSlot) {
      arguments[0] = slot(random, slots);
    }
    switch (name) {
      case "blank":
        arguments[1] = random.nextInt(3) == 0 ? number(random) : 1 + random.nextInt(7);
        break;
      case "block":
        arguments[1] = bits(random, held(plain, (Integer) arguments[0]));
        break;
      case "shift":
        arguments[1] = random.nextInt(2) == 0 ? number(random) : 1 + random.nextInt(8);
        arguments[2] = bits(random, (Integer) arguments[1]);
        break;
      case "rest": case "dual": case "turn": case "areApart": case "designOf": case "product": case "part":
        for (int i = 1; i < arguments.length; i++) {
          boolean isBlock = name.equals("part") && i == 1;
          arguments[i] = arguments[i] instanceof Boolean || isBlock ? arguments[i] : slot(random, 6);
        }
        break;
      case "planeOf":
        arguments[0] = random.nextInt(8) == 0 ? random.nextInt() : random.nextInt(65);
        arguments[1] = slot(random, 6);
        break;
      case "cause":
        for (int i = 0; i < 3; i++) {
          arguments[i] = random.nextInt(20) == 0 ? random.nextInt(100003) : random.nextInt(30 / (i + 1) + 1);
        }
        break;
      case "primes":
        arguments[1] = random.nextInt(4) == 0 ? number(random) : new int[] {3, 7, 11, 19, 23}[random.nextInt(5)];
        break;
      case "shifts": case "field":
        arguments[1] = random.nextInt(2) == 0 ? 2 + random.nextInt(4) : arguments[1];
        break;
      case "plays": case "isHome": case "breaks":
        arguments[0] = random.nextInt(4) == 0 ? number(random) : 2 + 2 * random.nextInt(10);
        break;
      case "unmet": case "setting":
        arguments[0] = random.nextInt(9) == 0 ? number(random) : 2 + random.nextInt(8);
        arguments[name.equals("unmet") ? 2 : 1] = random.nextInt(83);
        break;
      default:
        break;
    }
  }

  /** Some calls are drawn more often than the others, so that texts grow and small designs fill. */
  private static Method draw(List<Method> calls, Random random, String[] often) {
    String name = often[random.nextInt(often.length)];
    return random.nextInt(3) == 0 ? named(calls, name) : calls.get(random.nextInt(calls.size()));
  }

  private static Method named(List<Method> calls, String name) {
    for (Method method : calls) {
      if (method.getName().equals(name)) {
        return method;
      }
    }
    throw new IllegalStateException(name);
  }

  /** A run of calls on one new object of each kind. */
  private static final class Pair {
    final int seed;
    final List<Method> calls;
    final DesignsOffice office = new DesignsOffice();
    final PlainOffice plain = new PlainOffice();
    int made = 0;
    boolean isAlike = true;

    Pair(int seed, List<Method> calls) {
      this.seed = seed;
      this.calls = calls;
    }

    boolean goesOn() {
      return isAlike && made < CALLS;
    }

    void call(Method call, Object... arguments) throws Exception {
      if (!goesOn()) {
        return;
      }
      Object want = answer(plain, call, arguments);
      Object got = answer(office, call, arguments);
      String told = "run " + seed + ", call " + made + ": " + call.getName() + Arrays.toString(arguments);
      boolean isFault = call.getName().equals("read") && want instanceof Integer && (Integer) want < 0;
      SEEN.merge(call.getName() + (want instanceof String ? " " + want : isFault ? " fault" : ""), 1, Integer::sum);
      Check.same(told, want, got);
      Check.same(told + ": checksum after it", plain.checksum(), office.checksum());
      Check.same(told + ": isTrue after it", true, made % 16 != 0 || office.isTrue());
      isAlike = want.equals(got);
      made++;
    }

    void call(String name, Object... arguments) throws Exception {
      call(named(calls, name), arguments);
    }
  }

  /** A text that is right, but for one place now and then. */
  private static void readText(Pair pair, Random random) throws Exception {
    int points = 1 + random.nextInt(random.nextBoolean() ? 31 : 7);
    StringBuilder text = new StringBuilder().append(points);
    int blocks = random.nextInt(8);
    for (int i = 0; i < blocks; i++) {
      text.append(i == 0 ? ':' : ';');
      List<Integer> all = new ArrayList<>();
      for (int point = 0; point < points; point++) {
        all.add(point);
      }
      Collections.shuffle(all, random);
      for (int k = 0; k <= random.nextInt(Math.min(points, 4)); k++) {
        text.append(k == 0 ? "" : ",").append(random.nextInt(9) == 0 ? "00" : "").append(all.get(k));
      }
    }
    int place = random.nextInt(text.length() + 1);
    String signs = "0123456789:;, x-";
    char sign = signs.charAt(random.nextInt(signs.length()));
    if (random.nextInt(4) == 0) {
      text.insert(place, sign);
    } else if (random.nextInt(4) == 0 && place < text.length()) {
      text.deleteCharAt(place);
    } else if (random.nextInt(4) == 0 && place < text.length()) {
      text.setCharAt(place, sign);
    }
    pair.call("erase");
    for (int i = 0; i < text.length() && i < 120; i++) {
      pair.call("type", text.charAt(i));
    }
    pair.call("read", random.nextInt(6));
  }

  /** Squares that make a plane, but for one call now and then. */
  private static void makePlane(Pair pair, Random random) throws Exception {
    int order = 2 + random.nextInt(5);
    int start = order > 4 ? 0 : random.nextInt(8 - order);
    int set = 0;
    for (int by = 1; by < order; by++) {
      int slot = (start + by - 1) % 6;
      set |= 1 << slot;
      pair.call(order == 6 ? "shifts" : "field", order == 6 ? new Object[] {slot, 6, 1, by} : new Object[] {slot, order, by});
      if (random.nextInt(12) == 0) {
        pair.call("turn", slot, random.nextBoolean(), slot);
      }
    }
    if (random.nextInt(4) == 0) {
      pair.call("setCell", start % 6, random.nextInt(order), random.nextInt(order), random.nextInt(order));
    }
    pair.call("areApart", start % 6, (start + random.nextInt(order)) % 6);
    pair.call("transversals", start % 6);
    int to = random.nextInt(6);
    pair.call("planeOf", random.nextInt(6) == 0 ? set ^ 1 << random.nextInt(6) : set, to);
    pair.call("isEven", to);
    pair.call("fault", to);
  }

  private static void makeOfRows(Pair pair, Random random) throws Exception {
    int slot = random.nextInt(3);
    pair.call("doubled", slot, random.nextInt(5));
    for (int i = 0; i < 5; i++) {
      pair.call("flip", slot, random.nextBoolean(), random.nextInt(8));
      pair.call("areRowsApart", slot);
      pair.call("designOf", slot, random.nextInt(6));
    }
  }

  /** Covers of a small design, asked one by one. */
  private static void askCovers(Pair pair, Random random) throws Exception {
    int slot = random.nextInt(6);
    int points = 1 + random.nextInt(9);
    pair.call("blank", slot, points);
    int blocks = random.nextInt(18);
    for (int i = 0; i < blocks; i++) {
      pair.call("block", slot, 1 + random.nextInt((1 << points) - 1) & bits(random, points) | 1 << random.nextInt(points));
    }
    pair.call("isParted", slot);
    pair.call("ways", slot);
    pair.call("covers", slot);
    for (int i = 0; i < 4; i++) {
      int index = random.nextInt(12) - 1;
      pair.call("coverSize", slot, index);
      pair.call("coverAt", slot, index, random.nextInt(6) - 1);
    }
  }

  private static void run(int seed, List<Method> calls) throws Exception {
    Random random = new Random(seed);
    Pair pair = new Pair(seed, calls);
    String[][] tastes = {{"block", "blank"}, {"type"}, {"undo", "flip", "setCell"}, {"field", "planeOf", "turn"},
        {"shift", "covers", "isParted"}, {"block"}, {"affine", "part", "dual"}, {"product", "bose", "read", "type"}};
    String[] often = tastes[seed % tastes.length];
    while (pair.goesOn()) {
      switch (seed % 3 == 0 ? 9 : random.nextInt(90)) {
        case 0: readText(pair, random); break;
        case 1: makePlane(pair, random); break;
        case 2: makeOfRows(pair, random); break;
        case 3: askCovers(pair, random); break;
        default:
          Method call = draw(calls, random, often);
          pair.call(call, arguments(call, random, pair.plain));
          break;
      }
    }
  }

  public static void main(String[] args) {
    List<Method> calls = calls();
    for (int seed = 0; seed < RUNS; seed++) {
      int number = seed;
      Check.test("random run " + seed, () -> {
        try {
          run(number, calls);
        } catch (Exception e) {
          throw new IllegalStateException(e);
        }
      });
    }
    if (Boolean.getBoolean("seen")) {
      System.out.println(SEEN);
    }
    Check.end();
  }
}
