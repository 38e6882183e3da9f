import java.util.HashSet;
import java.util.Set;

/** The boundary cases that 'Terms' names: the theorem at its ends, and what holds of all calls. */
final class TermsEdgesTest {
  private static final String I = "IndexOutOfBoundsException";
  private static final String N = "NoSuchElementException";
  private static final String A = "IllegalArgumentException";
  private static final String U = "UnsupportedOperationException";
  private static final int ALL = Integer.MAX_VALUE;

  private TermsEdgesTest() {
  }

  /** Each design that is made by a call and a number, from the least to the most. */
  private static void made(String name, int least, int most, int pairs) {
    for (int i = least; i <= most; i++) {
      int number = i;
      Edge.test("theorem: what " + name + " makes of " + i + " is even", x -> {
        x.takes(name, 0, number);
        x.gives(true, "isEven", 0);
        x.gives(-1, "fault", 0);
        x.gives(pairs, "pairs", 0, 0, 1);
        x.gives(1.0f, "pairShare", 0);
        int points = (Integer) x.answer("points", 0);
        int size = (Integer) x.answer("meets", 0, 0, 0);
        x.gives('-', "cause", points, size, pairs);
        Check.same("fewer blocks than points", false, (Integer) x.answer("blocks", 0) < points);
      });
    }
  }

  private static void asManyBlocksAsPoints(String name, int number) {
    Edge.test("theorem: as many blocks as points, " + name + " of " + number + ", and its dual", x -> {
      x.takes(name, 0, number);
      int points = (Integer) x.answer("points", 0);
      x.gives(points, "blocks", 0);
      int pairs = (Integer) x.answer("pairs", 0, 0, 1);
      for (int block = 1; block < points; block++) {
        x.gives(pairs, "meets", 0, 0, block);
        x.gives(pairs, "meets", 0, block, block - 1);
      }
      x.gives(points, "dual", 0, 1);
      x.gives(true, "isEven", 1);
      x.gives(pairs, "pairs", 1, points - 1, 0);
    });
  }

  private static void theorem() {
    made("affine", 2, 5, 1);
    made("projective", 2, 5, 1);
    made("bose", 1, 4, 1);
    made("skolem", 1, 5, 1);
    Edge.test("theorem: what has one block is not even", x -> {
      x.takes("bose", 0, 0);
      x.gives(1, "blocks", 0);
      x.gives(false, "isEven", 0);
      x.gives(-1, "fault", 0);
    });
    asManyBlocksAsPoints("projective", 2);
    asManyBlocksAsPoints("projective", 5);
    asManyBlocksAsPoints("skolem", 1);
    for (int prime : new int[] {7, 11, 19, 23}) {
      Edge.test("theorem: the design of rows by " + prime + ", and its dual, are even", x -> {
        x.takes("primes", 0, prime);
        x.gives(prime, "designOf", 0, 0);
        x.gives(true, "isEven", 0);
        x.gives((prime - 3) / 4, "pairs", 0, 0, prime - 1);
        x.gives(prime, "dual", 0, 1);
        x.gives(true, "isEven", 1);
        x.gives('-', "cause", prime, (prime - 1) / 2, (prime - 3) / 4);
      });
    }
    Edge.test("theorem: the design of the fewest rows has blocks of one point", x -> {
      x.takes("primes", 0, 3);
      x.gives(3, "designOf", 0, 0);
      x.gives(false, "isEven", 0);
      x.gives(1.0, "meanSize", 0);
    });
    squaresAndRows();
    coversAreAll();
  }

  private static void squaresAndRows() {
    for (int order : new int[] {2, 3, 4, 5, 7}) {
      Edge.test("theorem: 1 less than " + order + " squares of this order are apart", x -> {
        for (int by = 1; by < order; by++) {
          x.takes("field", by - 1, order, by);
          for (int other = 0; other < by - 1; other++) {
            x.gives(true, "areApart", by - 1, other);
          }
        }
        if (order < 6) {
          x.gives(order * order + order, "planeOf", (1 << order - 1) - 1, 0);
          x.gives(true, "isEven", 0);
        }
      });
    }
    Edge.test("theorem: of the order 6 the shifts that are squares are not apart", x -> {
      int[][] numbers = {{1, 1}, {1, 5}, {5, 1}, {5, 5}};
      for (int i = 0; i < 4; i++) {
        x.takes("shifts", i, 6, numbers[i][0], numbers[i][1]);
        for (int other = 0; other <= i; other++) {
          x.gives(false, "areApart", i, other);
        }
      }
    });
    Edge.test("theorem: rows that are apart, and more than 2, are a multiple of 4", x -> {
      for (int times = 0; times < 5; times++) {
        x.gives(1 << times, "doubled", 0, times);
        x.gives(true, "areRowsApart", 0);
        x.gives(true, "isTrue");
      }
      for (int prime : new int[] {3, 7, 11, 19, 23}) {
        Check.same("a multiple of 4", 0, (Integer) x.answer("primes", 0, prime) % 4);
        x.gives(true, "areRowsApart", 0);
      }
    });
  }

  private static void coversAreAll() {
    Edge.test("theorem: 60 covers, each one once, by the least number where two differ", x -> {
      x.takes("blank", 0, 3);
      x.blocks(0, 3, 4);
      x.blocks(0, 4, 1);
      x.blocks(0, 5, 2);
      Set<Integer> seen = new HashSet<>();
      int before = -1;
      for (int cover = 0; cover < 60; cover++) {
        int told = 0;
        for (int place = 0; place < 3; place++) {
          told = 100 * told + (Integer) x.answer("coverAt", 0, cover, place);
        }
        Check.same(told + " is once", true, seen.add(told));
        Check.same(told + " is behind " + before, true, told > before);
        before = told;
      }
    });
    Edge.test("theorem: covers of unlike sizes, one being no part of another", x -> {
      x.design(0, 4, 8, 4, 2, 1, 12, 3, 15);
      int[][] want = {{0, 1, 2, 3}, {0, 1, 5}, {2, 3, 4}, {4, 5}, {6}};
      x.gives(5, "covers", 0);
      for (int cover = 0; cover < 5; cover++) {
        x.gives(want[cover].length, "coverSize", 0, cover);
        for (int place = 0; place < want[cover].length; place++) {
          x.gives(want[cover][place], "coverAt", 0, cover, place);
        }
      }
    });
    Edge.test("theorem: the covers of a plane are its parallels", x -> {
      x.takes("affine", 0, 5);
      x.gives(6, "covers", 0);
      for (int cover = 0; cover < 6; cover++) {
        x.gives(5, "coverSize", 0, cover);
        x.gives(5 * cover, "coverAt", 0, cover, 0);
        x.gives(5 * cover + 4, "coverAt", 0, cover, 4);
      }
    });
  }

  private static void slots() {
    Edge.test("slots: six of designs, each for itself", x -> {
      for (int slot = 0; slot < 6; slot++) {
        x.design(slot, slot + 1, 1);
      }
      for (int slot = 0; slot < 6; slot++) {
        x.gives(slot + 1, "points", slot);
        x.blocksAre(slot, 1);
      }
    });
    Edge.test("slots: six of tables, each for itself", x -> {
      for (int slot = 0; slot < 6; slot++) {
        x.takes("shifts", slot, slot + 2, 1, 1);
      }
      for (int slot = 0; slot < 6; slot++) {
        x.gives(slot + 2, "order", slot);
      }
    });
    Edge.test("slots: three of rows, each for itself", x -> {
      for (int slot = 0; slot < 3; slot++) {
        x.takes("doubled", slot, slot);
      }
      x.refuses(N, "sign", 0, 1, 1);
      x.refuses(N, "sign", 1, 2, 2);
      x.gives(-1, "sign", 2, 2, 2);
    });
    Edge.test("slots: what is made of a slot does not change with it", x -> {
      x.design(0, 3, 3);
      x.takes("rest", 0, 1);
      x.takes("block", 0, 7);
      x.takes("block", 1, 1);
      x.blocksAre(0, 3, 7);
      x.blocksAre(1, 4, 1);
      x.takes("shifts", 0, 2, 1, 1);
      x.takes("turn", 0, false, 1);
      x.takes("setCell", 0, 0, 0, 1);
      x.gives(0, "cell", 1, 0, 0);
    });
  }

  /** A run of as many calls as an object is used for, the last ones being asked. */
  private static void manyCalls() {
    Check.test("the 512th call is answered as the first one", () -> {
      DesignsOffice x = new DesignsOffice();
      for (int i = 0; i < 509; i++) {
        x.blank(i % 6, i % 31 + 1);
      }
      Check.due("undo(), the call 510", 7, x::undo);
      Check.due("points(4), the call 511", 502 % 31 + 1, () -> x.points(4));
      Check.due("points(6), the call 512", I, () -> x.points(6));
    });
    Check.test("512 signs are typed and refused", () -> {
      DesignsOffice x = new DesignsOffice();
      for (int i = 1; i <= 511; i++) {
        Object want = i <= 120 ? (Object) i : "IllegalStateException";
        Check.due("type, the call " + i, want, () -> x.type('7'));
      }
      Check.due("erase(), the call 512", 120, x::erase);
    });
    Check.test("512 refused calls leave a new office", () -> {
      DesignsOffice x = new DesignsOffice();
      for (int i = 0; i < 510; i++) {
        Check.due("undo(), the call " + i, N, x::undo);
      }
      Check.due("checksum()", new DesignsOffice().checksum(), x::checksum);
    });
    Check.test("500 searches for covers that are hard to find end", () -> {
      DesignsOffice x = new DesignsOffice();
      x.blank(0, 9);
      for (int i = 0; i < 12; i++) {
        x.block(0, 1 << i % 6);
      }
      // Three points of which any two, but not all, can be had.
      for (int i = 0; i < 9; i++) {
        x.block(0, new int[] {3 << 6, 6 << 6, 5 << 6}[i % 3]);
      }
      for (int i = 0; i < 480; i++) {
        Check.due("covers(0)", 0, () -> x.covers(0));
      }
    });
  }

  /** "If several exceptions apply, the one that is documented first is thrown": all wrong at once. */
  private static void firstExceptions() {
    String[] calls = {"blank", "block", "shift", "affine", "projective", "bose", "skolem", "product", "points", "blocks",
        "bitsOf", "often", "pairs", "meets", "distance", "isEven", "fault", "rest", "dual", "part", "covers",
        "coverSize", "coverAt", "isParted", "ways", "shifts", "field", "setCell", "order", "cell", "isSquare", "turn",
        "areApart", "transversals", "planeOf", "doubled", "primes", "sign", "flip", "areRowsApart", "designOf", "read",
        "meanSize", "pairShare"};
    for (String name : calls) {
      Edge.test("exceptions: " + name + " of numbers that are all wrong tells of the slot", x -> {
        for (int number : new int[] {-1, Integer.MIN_VALUE, ALL, 64}) {
          x.refuses(I, name, all(name, number));
        }
      });
    }
    for (String name : new String[] {"cause", "plays", "isHome", "breaks", "setting", "unmet"}) {
      Edge.test("exceptions: " + name + " of numbers that are all wrong", x -> {
        for (int number : new int[] {-1, Integer.MIN_VALUE, ALL, 1}) {
          x.refuses(A, name, all(name, number));
        }
      });
    }
    changesNothing();
  }

  private static Object[] all(String name, int number) {
    for (java.lang.reflect.Method method : DesignsOffice.class.getMethods()) {
      if (method.getName().equals(name)) {
        Object[] arguments = new Object[method.getParameterCount()];
        for (int i = 0; i < arguments.length; i++) {
          arguments[i] = method.getParameterTypes()[i] == boolean.class ? (Object) true : (Object) number;
        }
        return arguments;
      }
    }
    throw new AssertionError("no call " + name);
  }

  private static void changesNothing() {
    Edge.test("exceptions: what is refused leaves what its slot held", x -> {
      x.design(0, 3, 7, 1);
      x.takes("shifts", 0, 3, 1, 0);
      x.takes("doubled", 0, 1);
      x.types("3:0");
      x.refuses(A, "blank", 0, 32);
      x.refuses(A, "shift", 0, 3, 8);
      x.refuses(A, "affine", 0, 6);
      x.refuses(A, "projective", 0, 1);
      x.refuses(A, "bose", 0, 5);
      x.refuses(A, "skolem", 0, 0);
      x.refuses(U, "product", 0, 0, 0);
      x.refuses(U, "rest", 0, 0);
      x.refuses(U, "part", 0, 0, false, 0);
      x.refuses(U, "designOf", 0, 0);
      x.refuses(U, "planeOf", 1, 0);
      x.refuses(A, "shifts", 0, 3, 3, 0);
      x.refuses(A, "field", 0, 6, 0);
      x.refuses(U, "turn", 0, true, 0);
      x.refuses(A, "doubled", 0, 5);
      x.refuses(A, "primes", 0, 5);
      x.refuses(N, "flip", 0, true, 2);
      x.blocksAre(0, 7, 1);
      x.tableIs(0, new int[] {0, 0, 0}, new int[] {1, 1, 1}, new int[] {2, 2, 2});
      x.gives(-1, "sign", 0, 1, 1);
      x.gives(3, "erase");
    });
    Edge.test("exceptions: what is refused between two changes does not count among the eight", x -> {
      for (int points = 1; points < 9; points++) {
        x.takes("blank", 0, points);
        x.refuses(U, "dual", 0, 0);
      }
      for (int kept = 7; kept >= 0; kept--) {
        x.gives(kept, "undo");
      }
      x.refuses(N, "points", 0);
    });
  }

  public static void main(String[] args) {
    theorem();
    slots();
    manyCalls();
    firstExceptions();
    Check.end();
  }
}
