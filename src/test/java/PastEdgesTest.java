/** Promises 52 to 56: the boundary cases of the past and of the figures. */
final class PastEdgesTest {
  private static final String I = "IndexOutOfBoundsException";
  private static final String N = "NoSuchElementException";
  private static final String A = "IllegalArgumentException";
  private static final String U = "UnsupportedOperationException";
  private static final String M = "ArithmeticException";
  private static final int ALL = Integer.MAX_VALUE;

  private PastEdgesTest() {
  }

  private static void undo() {
    Edge.test("52 undo: none is kept at first", x -> x.refuses(N, "undo"));
    Edge.test("52 undo: none is kept, all being taken back", x -> {
      x.takes("blank", 0, 3);
      x.gives(0, "undo");
      x.refuses(N, "undo");
      x.refuses(N, "undo");
    });
    Edge.test("52 undo: at most eight, 7 being kept then", x -> {
      for (int points = 1; points < 9; points++) {
        x.takes("blank", 0, points);
      }
      for (int points = 7; points > 0; points--) {
        x.gives(points, "undo");
        x.gives(points, "points", 0);
      }
      x.gives(0, "undo");
      x.refuses(N, "points", 0);
      x.refuses(N, "undo");
    });
    Edge.test("52 undo: of nine the oldest one is forgotten", x -> {
      for (int points = 1; points < 10; points++) {
        x.takes("blank", 0, points);
      }
      for (int kept = 7; kept >= 0; kept--) {
        x.gives(kept, "undo");
      }
      x.refuses(N, "undo");
      x.gives(1, "points", 0);
    });
    Edge.test("52 undo: of 100 all but the latest eight are forgotten", x -> {
      for (int i = 0; i < 100; i++) {
        x.takes("blank", i % 6, i % 31 + 1);
      }
      // The changes 92 to 99 are taken back; those of the slots are 90, 91, 86, 87, 88 and 89 then.
      for (int kept = 7; kept >= 0; kept--) {
        x.gives(kept, "undo");
      }
      x.refuses(N, "undo");
      int[] last = {90, 91, 86, 87, 88, 89};
      for (int slot = 0; slot < 6; slot++) {
        x.gives(last[slot] % 31 + 1, "points", slot);
      }
    });
    undoAndGoOn();
    undoOfNone();
    undoOfNothing();
    eachCallKeeps();
  }

  private static void undoAndGoOn() {
    Edge.test("52 undo: what is taken back makes room for as many changes", x -> {
      for (int points = 1; points < 13; points++) {
        x.takes("blank", 0, points);
      }
      x.gives(7, "undo");
      x.gives(6, "undo");
      x.takes("blank", 0, 20);
      x.takes("blank", 0, 21);
      x.takes("blank", 0, 22);
      int[] before = {21, 20, 10, 9, 8, 7, 6, 5};
      for (int i = 0; i < 8; i++) {
        x.gives(7 - i, "undo");
        x.gives(before[i], "points", 0);
      }
      x.refuses(N, "undo");
    });
    Edge.test("52 undo: what it does is not kept", x -> {
      x.takes("blank", 0, 3);
      x.takes("blank", 0, 4);
      x.gives(1, "undo");
      x.gives(0, "undo");
      x.refuses(N, "undo");
      x.refuses(N, "points", 0);
    });
    Edge.test("52 undo: changes of designs, tables and rows by turns, the latest first", x -> {
      x.takes("blank", 0, 3);
      x.takes("shifts", 0, 3, 1, 1);
      x.takes("doubled", 0, 2);
      x.takes("blank", 0, 4);
      x.gives(3, "undo");
      x.gives(3, "points", 0);
      x.gives(2, "undo");
      x.refuses(N, "sign", 0, 0, 0);
      x.gives(1, "undo");
      x.refuses(N, "order", 0);
      x.gives(3, "points", 0);
      x.gives(0, "undo");
      x.refuses(N, "points", 0);
    });
    Edge.test("52 undo: the slot that became something, not the one that it was made of", x -> {
      x.design(0, 3, 3, 6);
      x.design(5, 2, 1);
      x.takes("rest", 0, 5);
      x.takes("undo");
      x.blocksAre(0, 3, 6);
      x.blocksAre(5, 1);
    });
    Edge.test("52 undo: a full design, a full table and the most rows", x -> {
      x.takes("blank", 5, 31);
      x.blocks(5, 160, ALL);
      x.takes("field", 5, 9, 8);
      x.takes("primes", 2, 23);
      long sum = x.checksum();
      x.takes("blank", 5, 1);
      x.takes("shifts", 5, 2, 0, 0);
      x.takes("doubled", 2, 0);
      x.gives(7, "undo");
      x.gives(6, "undo");
      x.gives(5, "undo");
      Check.same("checksum() behind undo()", sum, x.checksum());
    });
  }

  private static void undoOfNone() {
    Edge.test("52 undo: a slot of designs holds none again", x -> {
      x.takes("skolem", 5, 5);
      x.gives(0, "undo");
      x.empty(0, 6, "points", 0);
      Check.same("checksum()", new DesignsOffice().checksum(), x.checksum());
    });
    Edge.test("52 undo: a slot of tables holds none again", x -> {
      x.takes("field", 5, 9, 8);
      x.gives(0, "undo");
      x.empty(0, 6, "order", 0);
      Check.same("checksum()", new DesignsOffice().checksum(), x.checksum());
    });
    Edge.test("52 undo: a slot of rows of signs holds none again", x -> {
      x.takes("primes", 2, 23);
      x.gives(0, "undo");
      x.empty(0, 3, "areRowsApart", 0);
      Check.same("checksum()", new DesignsOffice().checksum(), x.checksum());
    });
    Edge.test("52 undo: a slot that holds none again becomes something anew", x -> {
      x.takes("skolem", 0, 5);
      x.takes("undo");
      x.gives(2, "blank", 0, 2);
      x.blocksAre(0);
      x.gives(0, "block", 0, 3);
      x.gives(1, "undo");
      x.gives(0, "undo");
      x.refuses(N, "blocks", 0);
    });
  }

  private static void undoOfNothing() {
    Edge.test("52 undo: the text is not kept", x -> {
      x.types("3:0");
      x.takes("erase");
      x.refuses(N, "undo");
      x.types("3:0;1");
      x.takes("read", 0);
      x.types("z");
      x.gives(0, "undo");
      x.gives(1, "erase");
      x.refuses(N, "points", 0);
    });
    Edge.test("52 undo: what is refused is not kept", x -> {
      x.takes("blank", 0, 3);
      x.refuses(A, "blank", 0, 0);
      x.refuses(A, "block", 0, 0);
      x.refuses(U, "dual", 0, 1);
      x.refuses(N, "rest", 1, 0);
      x.gives(0, "undo");
      x.refuses(N, "undo");
    });
    Edge.test("52 undo: what is asked is not kept", x -> {
      x.design(0, 3, 3, 6);
      String[] asked = {"points", "blocks", "isEven", "fault", "covers", "isParted", "ways", "meanSize", "pairShare"};
      for (String name : asked) {
        x.takes(name, 0);
      }
      x.takes("bitsOf", 0, 0);
      x.takes("often", 0, 0);
      x.takes("pairs", 0, 0, 1);
      x.takes("meets", 0, 0, 1);
      x.takes("distance", 0, 0, 1);
      x.takes("checksum");
      x.takes("isTrue");
      x.takes("cause", 7, 3, 1);
      x.takes("breaks", 20);
      x.takes("unmet", 9, 10, 80);
      x.gives(2, "undo");
    });
    Edge.test("52 undo: what becomes the same again is kept", x -> {
      x.takes("blank", 0, 3);
      x.takes("blank", 0, 3);
      x.takes("shifts", 0, 2, 1, 1);
      x.takes("shifts", 0, 2, 1, 1);
      x.gives(3, "undo");
      x.gives(2, "order", 0);
      x.gives(2, "undo");
      x.gives(1, "undo");
      x.gives(3, "points", 0);
      x.gives(0, "undo");
    });
  }

  /** More than eight changes, so that an undo() of one that is not kept would take back one of these. */
  private static void setUp(Edge x) {
    x.takes("primes", 2, 3);
    x.takes("skolem", 5, 1);
    x.takes("field", 5, 3, 2);
    x.takes("field", 1, 3, 1);
    x.takes("bose", 1, 0);
    x.design(0, 3, 3, 5, 6);
    x.takes("shifts", 0, 2, 1, 1);
    x.takes("doubled", 0, 2);
  }

  /** A call that changes something, and once more; mostly nothing becomes another one by the second call. */
  private static void keeps(String name, Object... arguments) {
    Edge.test("52 undo: each call keeps what its slot held: " + name + java.util.Arrays.toString(arguments), x -> {
      setUp(x);
      long none = x.checksum();
      x.types(name.equals("read") ? "3:0,1" : "");
      x.takes(name, arguments);
      long once = x.checksum();
      Check.same("a checksum() that is changed", true, once != none);
      x.types(name.equals("read") ? "3:0,1" : "");
      x.takes(name, arguments);
      x.gives(7, "undo");
      Check.same("checksum() behind one undo()", once, x.checksum());
      x.gives(6, "undo");
      Check.same("checksum() behind two", none, x.checksum());
    });
  }

  private static void eachCallKeeps() {
    keeps("blank", 0, 3);
    keeps("block", 0, 7);
    keeps("shift", 0, 3, 1);
    keeps("affine", 0, 2);
    keeps("projective", 0, 2);
    keeps("bose", 0, 1);
    keeps("skolem", 0, 1);
    keeps("product", 1, 1, 0);
    keeps("rest", 0, 3);
    keeps("dual", 5, 4);
    keeps("part", 0, 1, true, 4);
    keeps("part", 0, 1, false, 4);
    keeps("designOf", 0, 0);
    keeps("planeOf", 1, 0);
    keeps("planeOf", 34, 0);
    keeps("read", 0);
    keeps("shifts", 0, 2, 0, 0);
    keeps("field", 0, 9, 3);
    keeps("setCell", 0, 1, 1, 1);
    keeps("turn", 5, false, 0);
    keeps("turn", 5, true, 4);
    keeps("doubled", 0, 1);
    keeps("primes", 0, 7);
    keeps("flip", 0, true, 3);
    keeps("flip", 0, false, 3);
    Edge.test("52 undo: the sign that was there already is kept", x -> {
      x.takes("shifts", 0, 2, 1, 1);
      x.gives(1, "setCell", 0, 0, 1, 1);
      x.gives(1, "undo");
      x.tableIs(0, new int[] {0, 1}, new int[] {1, 0});
      x.gives(0, "undo");
      x.refuses(N, "order", 0);
    });
    Edge.test("52 undo: a design turned into itself is kept", x -> {
      x.design(0, 1, 1);
      x.takes("dual", 0, 0);
      x.takes("part", 0, 0, true, 0);
      x.gives(3, "undo");
      x.blocksAre(0, 1);
      x.gives(2, "undo");
      x.blocksAre(0, 1);
      x.gives(1, "undo");
      x.blocksAre(0);
    });
  }

  private static void meanSize() {
    Edge.test("53 meanSize: the slot, 0 to 5", x -> {
      x.design(0, 3, 7);
      x.design(5, 3, 7);
      x.slots(0, 6, "meanSize", 0);
    });
    Edge.test("53 meanSize: a slot that holds no design", x -> x.empty(0, 6, "meanSize", 0));
    Edge.test("53 meanSize: no blocks", x -> {
      x.takes("blank", 0, 31);
      x.refuses(M, "meanSize", 0);
    });
    Edge.test("53 meanSize: the only block is taken back", x -> {
      x.design(0, 3, 1);
      x.gives(1.0, "meanSize", 0);
      x.takes("undo");
      x.refuses(M, "meanSize", 0);
    });
    Edge.test("53 meanSize: the least size, and the greatest one", x -> {
      x.design(0, 1, 1);
      x.gives(1.0, "meanSize", 0);
      x.design(0, 31, ALL);
      x.gives(31.0, "meanSize", 0);
    });
    Edge.test("53 meanSize: 160 blocks", x -> {
      x.takes("blank", 0, 31);
      x.blocks(0, 159, ALL);
      x.takes("block", 0, 1);
      x.gives(4930.0 / 160.0, "meanSize", 0);
    });
    Edge.test("53 meanSize: divided as doubles, no whole number", x -> {
      x.design(0, 3, 1, 1, 3);
      x.gives(4.0 / 3.0, "meanSize", 0);
      x.takes("block", 0, 1);
      x.gives(1.25, "meanSize", 0);
    });
    Edge.test("53 meanSize: what is documented first is thrown", x -> {
      x.takes("blank", 0, 3);
      x.refuses(I, "meanSize", 6);
      x.refuses(I, "meanSize", -1);
      x.refuses(N, "meanSize", 1);
    });
  }

  private static void pairShare() {
    Edge.test("54 pairShare: the slot, 0 to 5", x -> {
      x.design(0, 3, 7);
      x.design(5, 3, 7);
      x.slots(0, 6, "pairShare", 0);
    });
    Edge.test("54 pairShare: a slot that holds no design", x -> x.empty(0, 6, "pairShare", 0));
    Edge.test("54 pairShare: one point, with blocks and without", x -> {
      x.takes("blank", 0, 1);
      x.refuses(M, "pairShare", 0);
      x.takes("block", 0, 1);
      x.refuses(M, "pairShare", 0);
    });
    Edge.test("54 pairShare: two points, which have one pair", x -> {
      x.takes("blank", 0, 2);
      x.gives(0.0f, "pairShare", 0);
      x.takes("block", 0, 1);
      x.gives(0.0f, "pairShare", 0);
      x.takes("block", 0, 3);
      x.gives(1.0f, "pairShare", 0);
    });
    Edge.test("54 pairShare: no blocks", x -> {
      x.takes("blank", 0, 31);
      x.gives(0.0f, "pairShare", 0);
    });
    Edge.test("54 pairShare: all of 465 pairs, and the last one alone", x -> {
      x.design(0, 31, ALL, 3);
      x.gives(1.0f, "pairShare", 0);
      x.design(0, 31, 3 << 29);
      x.gives(1.0f / 465.0f, "pairShare", 0);
    });
    Edge.test("54 pairShare: a pair that is in two blocks, and in 160, is one", x -> {
      x.design(0, 3, 3, 3);
      x.gives(1.0f / 3.0f, "pairShare", 0);
      x.blocks(0, 158, 3);
      x.gives(1.0f / 3.0f, "pairShare", 0);
    });
    Edge.test("54 pairShare: divided as floats", x -> {
      x.design(0, 4, 3, 5);
      x.gives(2.0f / 6.0f, "pairShare", 0);
      x.design(0, 7, 7, 56);
      x.gives(6.0f / 21.0f, "pairShare", 0);
    });
    Edge.test("54 pairShare: what is documented first is thrown", x -> {
      x.takes("blank", 0, 1);
      x.refuses(I, "pairShare", 6);
      x.refuses(I, "pairShare", -1);
      x.refuses(N, "pairShare", 1);
    });
  }

  private static long sum(int... numbers) {
    long sum = 7;
    for (int number : numbers) {
      sum = sum * 31 + number;
    }
    return sum;
  }

  private static void sumIs(String sentence, long want, Edge.Body setUp) {
    Edge.test("55 checksum: " + sentence, x -> {
      setUp.run(x);
      Check.same("checksum()", want, x.checksum());
    });
  }

  private static void checksum() {
    sumIs("7 at first, and 0 for each slot that holds none", sum(0, 0, 0, 0, 0, 0, 0, 0, 0, 0, 0, 0, 0, 0, 0), x -> { });
    sumIs("the first slot of designs, one point and no blocks", sum(1, 0, 0, 0, 0, 0, 0, 0, 0, 0, 0, 0, 0, 0, 0),
        x -> x.takes("blank", 0, 1));
    sumIs("the last slot of designs, and all bits of a block",
        sum(0, 0, 0, 0, 0, 31, ALL, 1 << 30, 0, 0, 0, 0, 0, 0, 0, 0, 0), x -> x.design(5, 31, ALL, 1 << 30));
    sumIs("the first slot of tables, row by row",
        sum(0, 0, 0, 0, 0, 0, 2, 0, 1, 0, 0, 0, 0, 0, 0, 0, 0, 0, 0),
        x -> x.table(0, new int[] {0, 1}, new int[] {0, 0}));
    sumIs("the last slot of tables", sum(0, 0, 0, 0, 0, 0, 0, 0, 0, 0, 0, 3, 0, 1, 2, 0, 1, 2, 0, 1, 2, 0, 0, 0),
        x -> x.takes("shifts", 5, 3, 0, 1));
    sumIs("the first slot of rows, -1 being taken away", sum(0, 0, 0, 0, 0, 0, 0, 0, 0, 0, 0, 0, 1, -1, 0, 0), x -> {
      x.takes("doubled", 0, 0);
      x.takes("flip", 0, true, 0);
    });
    sumIs("the last slot of rows, row by row", sum(0, 0, 0, 0, 0, 0, 0, 0, 0, 0, 0, 0, 0, 0, 2, -1, -1, 1, -1), x -> {
      x.takes("doubled", 2, 1);
      x.takes("flip", 2, true, 0);
    });
    sumIs("the code of each sign of the text", sum(0, 0, 0, 0, 0, 0, 0, 0, 0, 0, 0, 0, 0, 0, 0, 32, 126),
        x -> x.types(" ~"));
    Edge.test("55 checksum: a text that is gone counts no more", x -> {
      long none = x.checksum();
      x.types(" ~");
      x.takes("erase");
      Check.same("checksum()", none, x.checksum());
    });
    sumGoesRound();
  }

  private static void sumGoesRound() {
    Edge.test("55 checksum: a long that goes round, by what is greatest", x -> {
      java.math.BigInteger sum = java.math.BigInteger.valueOf(7);
      x.takes("blank", 0, 31);
      x.blocks(0, 160, ALL);
      int[] heads = new int[175];
      java.util.Arrays.fill(heads, 1, 161, ALL);
      heads[0] = 31;
      for (int number : heads) {
        sum = sum.multiply(java.math.BigInteger.valueOf(31)).add(java.math.BigInteger.valueOf(number));
      }
      Check.same("checksum()", sum.longValue(), x.checksum());
      Check.same("its going round", true, sum.bitLength() > 800);
    });
    Edge.test("55 checksum: it changes nothing", x -> {
      x.design(0, 3, 3);
      long sum = x.checksum();
      Check.same("checksum() again", sum, x.checksum());
      x.gives(1, "undo");
    });
  }

  private static void isTrue() {
    Edge.test("56 isTrue: one block of all points, which is not even", x -> {
      x.takes("bose", 0, 0);
      x.gives(true, "isTrue");
    });
    Edge.test("56 isTrue: as many blocks as points, and more", x -> {
      for (int slot = 0; slot < 4; slot++) {
        x.takes("projective", slot, slot + 2);
      }
      x.takes("skolem", 4, 5);
      x.takes("affine", 5, 5);
      x.gives(true, "isTrue");
    });
    Edge.test("56 isTrue: as many blocks as points that meet unlike, but not even", x -> {
      x.takes("shift", 0, 4, 3);
      x.design(1, 3, 3, 5, 5);
      x.gives(true, "isTrue");
    });
    Edge.test("56 isTrue: the order less 1 squares are apart, each from each", x -> {
      for (int by = 1; by < 7; by++) {
        x.takes("field", by - 1, 7, by);
      }
      x.gives(true, "isTrue");
      for (int slot = 0; slot < 6; slot++) {
        x.takes("field", slot, 3, 1 + slot % 2);
      }
      x.gives(true, "isTrue");
    });
    Edge.test("56 isTrue: one row, and two, are no multiple of 4", x -> {
      x.takes("doubled", 0, 0);
      x.takes("doubled", 1, 1);
      x.takes("doubled", 2, 2);
      x.gives(true, "isTrue");
    });
    isTrueOfCovers();
  }

  private static void isTrueOfCovers() {
    Edge.test("56 isTrue: designs of 12 blocks, and of 13, and 60 covers, and more", x -> {
      for (int slot = 0; slot < 2; slot++) {
        x.takes("blank", slot, 3);
        x.blocks(slot, 3, 1);
        x.blocks(slot, 4, 2);
        x.blocks(slot, 5, 4);
      }
      x.takes("block", 1, 7);
      x.takes("blank", 2, 3);
      x.blocks(2, 4, 1);
      x.blocks(2, 4, 2);
      x.blocks(2, 4, 4);
      x.gives(60, "covers", 0);
      x.refuses(U, "covers", 1);
      x.refuses(U, "covers", 2);
      x.gives(true, "isTrue");
    });
    Edge.test("56 isTrue: designs without blocks, and without covers", x -> {
      x.takes("blank", 0, 1);
      x.takes("blank", 1, 31);
      x.design(2, 3, 3, 5);
      x.gives(true, "isTrue");
    });
    Edge.test("56 isTrue: it changes nothing", x -> {
      x.design(0, 3, 7, 7);
      x.types("3");
      long sum = x.checksum();
      x.gives(true, "isTrue");
      Check.same("checksum()", sum, x.checksum());
      x.gives(2, "undo");
    });
    Edge.test("56 isTrue: six full designs, tables and rows", x -> {
      for (int slot = 0; slot < 6; slot++) {
        x.takes("skolem", slot, 5);
        x.blocks(slot, 5, ALL);
        x.takes("field", slot, 9, slot + 1);
        x.takes("primes", slot / 2, 23);
      }
      x.gives(true, "isTrue");
    });
  }

  public static void main(String[] args) {
    undo();
    meanSize();
    pairShare();
    checksum();
    isTrue();
    Check.end();
  }
}
