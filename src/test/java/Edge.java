import java.lang.reflect.InvocationTargetException;
import java.lang.reflect.Method;
import java.util.Arrays;

/**
 * A boundary case of the document. Two offices are set up alike; what must answer is asked of both, what must be
 * refused is asked of one alone. So a refused call that changes anything, be it only what is kept to be undone, makes
 * them unlike, and fails the test: "A method that throws an exception changes nothing."
 */
final class Edge {
  /** What a boundary case asks of the offices. */
  interface Body {
    void run(Edge x);
  }

  private static final String I = "IndexOutOfBoundsException";
  private static final String N = "NoSuchElementException";

  private final DesignsOffice office = new DesignsOffice();
  private final DesignsOffice twin = new DesignsOffice();
  private int calls = 0;

  private Edge() {
  }

  /** A test of its own for a sentence of the document, which its name tells. */
  static void test(String name, Body body) {
    Check.test(name, () -> {
      Edge x = new Edge();
      body.run(x);
      x.areStillAlike();
    });
  }

  private static Method named(String name) {
    for (Method method : DesignsOffice.class.getMethods()) {
      if (method.getName().equals(name) && method.getDeclaringClass() == DesignsOffice.class) {
        return method;
      }
    }
    throw new AssertionError("no call " + name);
  }

  private Object ask(DesignsOffice of, String name, Object... arguments) {
    calls += of == office ? 1 : 0;
    try {
      return named(name).invoke(of, arguments);
    } catch (InvocationTargetException e) {
      return e.getCause().getClass().getSimpleName();
    } catch (IllegalAccessException e) {
      throw new AssertionError(e);
    }
  }

  private static String told(String name, Object... arguments) {
    return name + Arrays.toString(arguments);
  }

  /** The answer of a call, asked of both offices. */
  Object answer(String name, Object... arguments) {
    Object got = ask(office, name, arguments);
    Check.same(told(name, arguments) + ", asked of the twin,", got, ask(twin, name, arguments));
    return got;
  }

  void gives(Object want, String name, Object... arguments) {
    Check.same(told(name, arguments), want, answer(name, arguments));
  }

  /** The call throws nothing; what it answers is looked at elsewhere. */
  void takes(String name, Object... arguments) {
    Object got = answer(name, arguments);
    Check.same(told(name, arguments) + " throws", "nothing", got instanceof String ? got : "nothing");
  }

  void refuses(String want, String name, Object... arguments) {
    Check.same(told(name, arguments), want, ask(office, name, arguments));
    Check.same("checksum() behind " + told(name, arguments), sumOf(twin), sumOf(office));
  }

  private long sumOf(DesignsOffice of) {
    return (Long) ask(of, "checksum");
  }

  private static Object[] with(Object[] arguments, int place, int number) {
    Object[] changed = arguments.clone();
    changed[place] = number;
    return changed;
  }

  /** Of the numbers at a place, those beside the least and the most and those farthest off are refused. */
  void between(String want, int place, int least, int most, String name, Object... arguments) {
    for (int wrong : new int[] {Integer.MIN_VALUE, least - 1, most + 1, Integer.MAX_VALUE}) {
      refuses(want, name, with(arguments, place, wrong));
    }
    takes(name, with(arguments, place, least));
    takes(name, with(arguments, place, most));
  }

  /** A slot is 0 to 5, or 0 to 2, by how many there are. */
  void slots(int place, int count, String name, Object... arguments) {
    between(I, place, 0, count - 1, name, arguments);
  }

  /** While nothing is held, the call finds nothing in any slot. */
  void empty(int place, int count, String name, Object... arguments) {
    for (int slot = 0; slot < count; slot++) {
      refuses(N, name, with(arguments, place, slot));
    }
  }

  void blocksAre(int slot, int... want) {
    gives(want.length, "blocks", slot);
    for (int i = 0; i < want.length; i++) {
      gives(want[i], "bitsOf", slot, i);
    }
  }

  /** Lets a slot become a design of told blocks. */
  void design(int slot, int points, int... blocks) {
    takes("blank", slot, points);
    for (int block : blocks) {
      takes("block", slot, block);
    }
  }

  /** Puts a block behind the others of a slot, as often as told. */
  void blocks(int slot, int times, int bits) {
    for (int i = 0; i < times; i++) {
      takes("block", slot, bits);
    }
  }

  /** Lets a slot become a table of told signs. */
  void table(int slot, int[]... signs) {
    takes("shifts", slot, signs.length, 0, 0);
    for (int row = 0; row < signs.length; row++) {
      for (int column = 0; column < signs.length; column++) {
        takes("setCell", slot, row, column, signs[row][column]);
      }
    }
  }

  void tableIs(int slot, int[]... want) {
    gives(want.length, "order", slot);
    for (int row = 0; row < want.length; row++) {
      for (int column = 0; column < want.length; column++) {
        gives(want[row][column], "cell", slot, row, column);
      }
    }
  }

  void types(String text) {
    for (char sign : text.toCharArray()) {
      takes("type", sign);
    }
  }

  /** The text is read as so many blocks, or at a fault, as -1 less it; it is gone then in each case. */
  void reads(int want, String text, int slot) {
    types(text);
    gives(want, "read", slot);
    gives(0, "erase");
  }

  long checksum() {
    return (Long) answer("checksum");
  }

  /** Takes back what is kept, one by one; whatever a refused call has left behind shows here at the latest. */
  private void areStillAlike() {
    Check.same("checksum() of one and of the twin", sumOf(twin), sumOf(office));
    gives(true, "isTrue");
    for (int i = 0; i < 9; i++) {
      answer("undo");
      Check.same("checksum() of both behind undo()", sumOf(twin), sumOf(office));
    }
    gives(N, "undo");
    answer("erase");
    Check.same("more than 512 calls", false, calls > 512);
  }
}
