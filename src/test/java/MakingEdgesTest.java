/** Promises 1 to 9: the boundary cases of a new object and of what makes designs. */
final class MakingEdgesTest {
  private static final String I = "IndexOutOfBoundsException";
  private static final String N = "NoSuchElementException";
  private static final String A = "IllegalArgumentException";
  private static final String S = "IllegalStateException";
  private static final String U = "UnsupportedOperationException";
  private static final int ALL = Integer.MAX_VALUE;
  private static final int MIN = Integer.MIN_VALUE;

  private MakingEdgesTest() {
  }

  private static void newObject() {
    Edge.test("1 a new object: no slot of designs holds one", x -> x.empty(0, 6, "points", 0));
    Edge.test("1 a new object: no slot of tables holds one", x -> x.empty(0, 6, "order", 0));
    Edge.test("1 a new object: no slot of rows of signs holds them", x -> x.empty(0, 3, "areRowsApart", 0));
    Edge.test("1 a new object: the text is empty", x -> x.gives(0, "erase"));
    Edge.test("1 a new object: the text, being empty, is a fault at 0", x -> x.gives(-1, "read", 0));
    Edge.test("1 a new object: nothing is kept", x -> x.refuses(N, "undo"));
    Edge.test("1 a new object: the theorem holds of nothing", x -> x.gives(true, "isTrue"));
    Edge.test("1 a new object: another one's slots are its own", x -> {
      x.takes("blank", 0, 3);
      Check.due("points(0) of another one", N, () -> new DesignsOffice().points(0));
    });
  }

  private static void blank() {
    Edge.test("2 blank: the slot, 0 to 5", x -> x.slots(0, 6, "blank", 0, 3));
    Edge.test("2 blank: the points, 1 to 31", x -> x.between(A, 1, 1, 31, "blank", 0, 0));
    Edge.test("2 blank: 0 and less points are out of range, above a held design", x -> {
      x.design(0, 4, 3);
      x.refuses(A, "blank", 0, 0);
      x.refuses(A, "blank", 0, -31);
      x.blocksAre(0, 3);
    });
    Edge.test("2 blank: returns 1, the fewest points", x -> {
      x.gives(1, "blank", 0, 1);
      x.gives(1, "points", 0);
    });
    Edge.test("2 blank: returns 31, the most points", x -> {
      x.gives(31, "blank", 5, 31);
      x.gives(31, "points", 5);
    });
    Edge.test("2 blank: without blocks, also where there were 160", x -> {
      x.takes("blank", 2, 31);
      x.blocks(2, 160, ALL);
      x.gives(2, "blank", 2, 2);
      x.blocksAre(2);
      x.gives(0, "block", 2, 3);
    });
    Edge.test("2 blank: no such slot ahead of a number out of range", x -> {
      x.refuses(I, "blank", 6, 0);
      x.refuses(I, "blank", -1, 32);
    });
  }

  private static void block() {
    Edge.test("3 block: the slot, 0 to 5", x -> {
      x.takes("blank", 0, 3);
      x.takes("blank", 5, 3);
      x.slots(0, 6, "block", 0, 7);
    });
    Edge.test("3 block: a slot that holds no design", x -> x.empty(0, 6, "block", 0, 1));
    Edge.test("3 block: a slot that holds none again", x -> {
      x.takes("blank", 0, 3);
      x.takes("undo");
      x.refuses(N, "block", 0, 1);
    });
    Edge.test("3 block: no points", x -> {
      x.takes("blank", 0, 31);
      x.refuses(A, "block", 0, 0);
    });
    Edge.test("3 block: one point, the only one of the design", x -> {
      x.takes("blank", 0, 1);
      x.gives(0, "block", 0, 1);
      x.refuses(A, "block", 0, 2);
      x.refuses(A, "block", 0, 3);
      x.blocksAre(0, 1);
    });
    Edge.test("3 block: a point just behind the last one", x -> {
      x.takes("blank", 0, 5);
      x.refuses(A, "block", 0, 32);
      x.refuses(A, "block", 0, 33);
      x.gives(0, "block", 0, 16);
      x.gives(1, "block", 0, 31);
    });
    Edge.test("3 block: the bit 31 is no point, of 31 points either", x -> {
      x.takes("blank", 0, 31);
      x.refuses(A, "block", 0, MIN);
      x.refuses(A, "block", 0, -1);
      x.refuses(A, "block", 0, MIN | 1);
      x.gives(0, "block", 0, ALL);
      x.gives(1, "block", 0, 1 << 30);
      x.refuses(A, "block", 0, 0);
    });
    Edge.test("3 block: returns its number, 0 for the first one", x -> {
      x.takes("blank", 0, 3);
      x.gives(0, "block", 0, 4);
      x.gives(1, "block", 0, 4);
      x.blocksAre(0, 4, 4);
    });
    blockWhenFull();
  }

  private static void blockWhenFull() {
    Edge.test("3 block: the 160th is the last one", x -> {
      x.takes("blank", 0, 2);
      x.blocks(0, 159, 3);
      x.gives(159, "block", 0, 1);
      x.refuses(S, "block", 0, 1);
      x.gives(160, "blocks", 0);
      x.gives(1, "bitsOf", 0, 159);
    });
    Edge.test("3 block: 160 blocks of one slot leave room in another one", x -> {
      x.takes("blank", 0, 2);
      x.blocks(0, 160, 3);
      x.takes("blank", 1, 2);
      x.gives(0, "block", 1, 1);
    });
    Edge.test("3 block: of 160, one taken back makes room for one", x -> {
      x.takes("blank", 0, 2);
      x.blocks(0, 160, 3);
      x.refuses(S, "block", 0, 1);
      x.takes("undo");
      x.gives(159, "block", 0, 2);
      x.refuses(S, "block", 0, 1);
    });
    Edge.test("3 block: behind the 155 of the greatest triples 5 more", x -> {
      x.takes("skolem", 0, 5);
      x.blocks(0, 5, 7);
      x.refuses(S, "block", 0, 7);
    });
    Edge.test("3 block: what is documented first is thrown", x -> {
      x.takes("blank", 0, 2);
      x.blocks(0, 160, 3);
      x.refuses(A, "block", 0, 0);
      x.refuses(A, "block", 0, 4);
      x.refuses(I, "block", 6, 0);
      x.refuses(I, "block", -1, 1);
      x.refuses(N, "block", 1, 0);
      x.refuses(N, "block", 5, MIN);
    });
  }

  private static void shift() {
    Edge.test("4 shift: the slot, 0 to 5", x -> x.slots(0, 6, "shift", 0, 3, 1));
    Edge.test("4 shift: the points, 1 to 31", x -> x.between(A, 1, 1, 31, "shift", 0, 0, 1));
    Edge.test("4 shift: no points in the block", x -> {
      x.refuses(A, "shift", 0, 1, 0);
      x.refuses(A, "shift", 0, 31, 0);
    });
    Edge.test("4 shift: a point just behind the last one", x -> {
      x.refuses(A, "shift", 0, 4, 16);
      x.refuses(A, "shift", 0, 4, 17);
      x.refuses(A, "shift", 0, 1, 2);
      x.refuses(A, "shift", 0, 30, 1 << 30);
    });
    Edge.test("4 shift: the bit 31 is no point", x -> {
      x.refuses(A, "shift", 0, 31, MIN);
      x.refuses(A, "shift", 0, 31, -1);
    });
    Edge.test("4 shift: one point is moved on to itself", x -> {
      x.gives(1, "shift", 0, 1, 1);
      x.blocksAre(0, 1);
    });
    Edge.test("4 shift: behind the last point stands the point 0", x -> {
      x.gives(4, "shift", 0, 4, 8);
      x.blocksAre(0, 8, 1, 2, 4);
      x.gives(5, "shift", 0, 5, 24);
      x.blocksAre(0, 24, 17, 3, 6, 12);
    });
    Edge.test("4 shift: behind the point 30 of 31 stands the point 0", x -> {
      x.gives(31, "shift", 0, 31, 1 << 30);
      x.gives(1 << 30, "bitsOf", 0, 0);
      x.gives(1, "bitsOf", 0, 1);
      x.gives(1 << 29, "bitsOf", 0, 30);
      x.gives(31, "blocks", 0);
    });
    Edge.test("4 shift: a block for each, also if some are alike", x -> {
      x.gives(4, "shift", 0, 4, 5);
      x.blocksAre(0, 5, 10, 5, 10);
      x.gives(31, "shift", 0, 31, ALL);
      x.gives(ALL, "bitsOf", 0, 30);
    });
    Edge.test("4 shift: no such slot ahead of what is out of range", x -> {
      x.refuses(I, "shift", 6, 0, 0);
      x.refuses(I, "shift", -1, 3, 8);
    });
    Edge.test("4 shift: what is refused leaves the held design", x -> {
      x.design(0, 4, 3);
      x.refuses(A, "shift", 0, 4, 0);
      x.refuses(A, "shift", 0, 32, 1);
      x.blocksAre(0, 3);
    });
  }

  private static void planes() {
    Edge.test("5 affine: the slot, 0 to 5", x -> x.slots(0, 6, "affine", 0, 2));
    Edge.test("5 affine: the order, 2 to 5", x -> x.between(A, 1, 2, 5, "affine", 0, 0));
    Edge.test("5 affine: no orders beside these, not of greater fields either", x -> {
      for (int order : new int[] {-2, 0, 7, 8, 9}) {
        x.refuses(A, "affine", 0, order);
      }
    });
    Edge.test("5 affine: the least order", x -> {
      x.gives(6, "affine", 0, 2);
      x.gives(4, "points", 0);
      x.blocksAre(0, 5, 10, 9, 6, 3, 12);
    });
    Edge.test("5 affine: the greatest order", x -> {
      x.gives(30, "affine", 0, 5);
      x.gives(25, "points", 0);
      x.gives(1 | 1 << 5 | 1 << 10 | 1 << 15 | 1 << 20, "bitsOf", 0, 0);
      // m = 4 and c = 4: y is 4, 3, 2, 1 and 0, going round modulo 5.
      x.gives(1 << 4 | 1 << 8 | 1 << 12 | 1 << 16 | 1 << 20, "bitsOf", 0, 24);
      x.gives(31 << 20, "bitsOf", 0, 29);
      x.refuses(N, "bitsOf", 0, 30);
    });
    Edge.test("5 affine: no such slot ahead of no such order", x -> {
      x.refuses(I, "affine", 6, 1);
      x.refuses(I, "affine", -1, 6);
    });
    Edge.test("6 projective: the slot, 0 to 5", x -> x.slots(0, 6, "projective", 0, 2));
    Edge.test("6 projective: the order, 2 to 5", x -> x.between(A, 1, 2, 5, "projective", 0, 0));
    Edge.test("6 projective: no orders beside these, not of greater fields either", x -> {
      for (int order : new int[] {-2, 0, 7, 8, 9}) {
        x.refuses(A, "projective", 0, order);
      }
    });
    Edge.test("6 projective: the least order", x -> {
      x.gives(7, "projective", 0, 2);
      x.gives(7, "points", 0);
      x.blocksAre(0, 5 | 16, 10 | 16, 9 | 32, 6 | 32, 3 | 64, 12 | 64, 112);
    });
    Edge.test("6 projective: the greatest order has the point 30, the last one", x -> {
      x.gives(31, "projective", 0, 5);
      x.gives(31, "points", 0);
      x.gives(1 | 1 << 5 | 1 << 10 | 1 << 15 | 1 << 20 | 1 << 25, "bitsOf", 0, 0);
      x.gives(31 << 20 | 1 << 30, "bitsOf", 0, 29);
      x.gives(63 << 25, "bitsOf", 0, 30);
      x.refuses(N, "bitsOf", 0, 31);
    });
    Edge.test("6 projective: no such slot ahead of no such order", x -> {
      x.refuses(I, "projective", 6, 1);
      x.refuses(I, "projective", -1, 6);
    });
  }

  private static void triples() {
    Edge.test("7 bose: the slot, 0 to 5", x -> x.slots(0, 6, "bose", 0, 1));
    Edge.test("7 bose: t, 0 to 4", x -> x.between(A, 1, 0, 4, "bose", 0, 0));
    Edge.test("7 bose: t of 0 has no pairs x and y, and one block", x -> {
      x.gives(1, "bose", 0, 0);
      x.gives(3, "points", 0);
      x.blocksAre(0, 7);
    });
    Edge.test("7 bose: t of 4 has 27 points", x -> {
      x.gives(117, "bose", 0, 4);
      x.gives(27, "points", 0);
      x.gives(1 << 8 | 1 << 17 | 1 << 26, "bitsOf", 0, 8);
      // The last pair, 7 and 8, for k of 2: half of 15, which is 6 modulo 9, is 3, for k of 0.
      x.gives(1 << 25 | 1 << 26 | 1 << 3, "bitsOf", 0, 116);
      x.refuses(N, "bitsOf", 0, 117);
    });
    Edge.test("7 bose: behind the k of 2 is 0", x -> {
      x.takes("bose", 0, 1);
      x.gives(64 | 128 | 4, "bitsOf", 0, 5);
    });
    Edge.test("7 bose: no such slot ahead of t out of range", x -> {
      x.refuses(I, "bose", 6, -1);
      x.refuses(I, "bose", -1, 5);
    });
    Edge.test("8 skolem: the slot, 0 to 5", x -> x.slots(0, 6, "skolem", 0, 1));
    Edge.test("8 skolem: t, 1 to 5", x -> x.between(A, 1, 1, 5, "skolem", 0, 0));
    Edge.test("8 skolem: t of 1 has one x below it, and one pair x and y", x -> {
      x.gives(7, "skolem", 0, 1);
      x.gives(7, "points", 0);
      x.blocksAre(0, 21, 64 | 2 | 4, 64 | 8 | 16, 64 | 32 | 1, 3 | 8, 12 | 32, 48 | 2);
    });
    Edge.test("8 skolem: t of 5 has 31 points, the last one being 30", x -> {
      x.gives(155, "skolem", 0, 5);
      x.gives(31, "points", 0);
      // The first one with the point 30: 5 for k of 0, and 0 for k of 1.
      x.gives(1 << 30 | 1 << 5 | 1 << 10, "bitsOf", 0, 5);
      // The last pair, 8 and 9, for k of 2: s is 7, and 7 + 9 by 2 is 8, for k of 0.
      x.gives(1 << 28 | 1 << 29 | 1 << 8, "bitsOf", 0, 154);
      x.refuses(N, "bitsOf", 0, 155);
    });
    Edge.test("8 skolem: no such slot ahead of t out of range", x -> {
      x.refuses(I, "skolem", 6, 0);
      x.refuses(I, "skolem", -1, 6);
    });
  }

  private static void product() {
    Edge.test("9 product: the slot of the one, 0 to 5", x -> {
      x.takes("bose", 0, 0);
      x.takes("bose", 5, 0);
      x.slots(0, 6, "product", 0, 0, 1);
    });
    Edge.test("9 product: the slot of the other one, 0 to 5", x -> {
      x.takes("bose", 0, 0);
      x.takes("bose", 5, 0);
      x.slots(1, 6, "product", 0, 0, 1);
    });
    Edge.test("9 product: the slot that becomes it, 0 to 5", x -> {
      x.takes("bose", 1, 0);
      x.slots(2, 6, "product", 1, 1, 0);
      x.gives(12, "blocks", 0);
      x.gives(12, "blocks", 5);
    });
    Edge.test("9 product: one of both holds no design", x -> {
      x.takes("bose", 0, 0);
      x.refuses(N, "product", 5, 0, 1);
      x.refuses(N, "product", 0, 5, 1);
      x.refuses(N, "product", 5, 5, 0);
      x.gives(12, "product", 0, 0, 5);
    });
    Edge.test("9 product: the one has a block of two points, or of four", x -> {
      x.takes("bose", 0, 0);
      x.design(1, 4, 3, 7);
      x.design(2, 4, 7, 15);
      x.refuses(U, "product", 1, 0, 3);
      x.refuses(U, "product", 2, 0, 3);
    });
    Edge.test("9 product: the other one has a block of two points, or of four", x -> {
      x.takes("bose", 0, 0);
      x.design(1, 4, 3, 7);
      x.design(2, 4, 7, 15);
      x.refuses(U, "product", 0, 1, 3);
      x.refuses(U, "product", 0, 2, 3);
    });
    Edge.test("9 product: neither has a block", x -> {
      x.takes("blank", 0, 1);
      x.gives(0, "product", 0, 0, 0);
      x.gives(1, "points", 0);
    });
    productOfTheLeast();
    productPoints();
    productBlocks();
  }

  private static int bits(int... points) {
    int bits = 0;
    for (int point : points) {
      bits |= 1 << point;
    }
    return bits;
  }

  private static void productOfTheLeast() {
    Edge.test("9 product: of the least triples by themselves, block by block", x -> {
      x.takes("bose", 0, 0);
      x.gives(12, "product", 0, 0, 1);
      x.gives(9, "points", 1);
      x.blocksAre(1, 7, 7 << 3, 7 << 6, 73, 73 << 1, 73 << 2, bits(0, 4, 8), bits(0, 5, 7), bits(1, 3, 8),
          bits(1, 5, 6), bits(2, 3, 7), bits(2, 4, 6));
      x.gives(true, "isEven", 1);
    });
    Edge.test("9 product: blocks without the first point, and with a gap", x -> {
      x.design(0, 4, 14);
      x.design(1, 4, 13);
      x.gives(14, "product", 0, 1, 2);
      x.gives(16, "points", 2);
      int spread = bits(4, 8, 12);
      x.blocksAre(2, 13, 13 << 4, 13 << 8, 13 << 12, spread, spread << 1, spread << 2, spread << 3,
          bits(4, 10, 15), bits(4, 11, 14), bits(6, 8, 15), bits(6, 11, 12), bits(7, 8, 14), bits(7, 10, 12));
    });
    Edge.test("9 product: two blocks of each, by the one and then by the other one", x -> {
      x.design(0, 4, 7, 14);
      x.design(1, 4, 11, 13);
      x.gives(40, "product", 0, 1, 0);
      x.gives(11, "bitsOf", 0, 0);
      x.gives(13, "bitsOf", 0, 1);
      x.gives(13 << 12, "bitsOf", 0, 7);
      x.gives(bits(0, 4, 8), "bitsOf", 0, 8);
      x.gives(bits(4, 8, 12), "bitsOf", 0, 9);
      x.gives(bits(7, 11, 15), "bitsOf", 0, 15);
      x.gives(bits(0, 5, 11), "bitsOf", 0, 16);
      x.gives(bits(3, 5, 8), "bitsOf", 0, 21);
      x.gives(bits(0, 6, 11), "bitsOf", 0, 22);
      x.gives(bits(4, 9, 15), "bitsOf", 0, 28);
      x.gives(bits(7, 10, 12), "bitsOf", 0, 39);
    });
  }

  private static void productPoints() {
    Edge.test("9 product: 31 points, the point 30 being the last one", x -> {
      x.design(0, 31, 7 << 28);
      x.takes("blank", 1, 1);
      x.gives(1, "product", 0, 1, 2);
      x.blocksAre(2, 7 << 28);
      x.gives(1, "product", 1, 0, 3);
      x.blocksAre(3, 7 << 28);
      x.gives(31, "points", 3);
    });
    Edge.test("9 product: 32 points are more than 31", x -> {
      x.takes("blank", 0, 4);
      x.takes("blank", 1, 8);
      x.takes("blank", 2, 16);
      x.takes("blank", 3, 2);
      x.refuses(U, "product", 0, 1, 5);
      x.refuses(U, "product", 1, 0, 5);
      x.refuses(U, "product", 2, 3, 5);
      x.gives(0, "product", 0, 3, 5);
      x.gives(8, "points", 5);
    });
    Edge.test("9 product: 961 points are more than 31", x -> {
      x.takes("blank", 0, 31);
      x.refuses(U, "product", 0, 0, 0);
    });
  }

  private static void productBlocks() {
    Edge.test("9 product: 160 blocks by both, and 161", x -> {
      x.takes("bose", 0, 0);
      x.takes("blank", 1, 7);
      x.blocks(1, 17, 7);
      x.takes("blank", 2, 8);
      x.blocks(2, 17, 7);
      // 3 times 17, and the points of the other one, and 6 times 17.
      x.gives(160, "product", 0, 1, 3);
      x.refuses(U, "product", 0, 2, 3);
      x.gives(160, "product", 1, 0, 3);
      x.refuses(U, "product", 2, 0, 3);
    });
    Edge.test("9 product: 160 blocks by the other one alone, and 161", x -> {
      x.takes("blank", 0, 5);
      x.takes("blank", 1, 3);
      x.blocks(1, 32, 7);
      x.gives(160, "product", 0, 1, 2);
      x.takes("blank", 0, 7);
      x.takes("blank", 1, 4);
      x.blocks(1, 23, 14);
      x.refuses(U, "product", 0, 1, 2);
    });
    Edge.test("9 product: 160 blocks by the one alone, and 161", x -> {
      x.takes("blank", 0, 5);
      x.takes("blank", 1, 3);
      x.blocks(1, 32, 7);
      x.gives(160, "product", 1, 0, 2);
      x.takes("blank", 0, 7);
      x.takes("blank", 1, 4);
      x.blocks(1, 23, 14);
      x.refuses(U, "product", 1, 0, 2);
    });
    Edge.test("9 product: into the one, and into the other one", x -> {
      x.takes("skolem", 0, 1);
      x.takes("bose", 1, 0);
      x.gives(70, "product", 0, 1, 1);
      x.gives(21, "points", 1);
      x.gives(7, "points", 0);
      x.takes("bose", 1, 0);
      x.gives(70, "product", 1, 0, 1);
      x.gives(21, "points", 1);
    });
    Edge.test("9 product: what is documented first is thrown", x -> {
      x.design(0, 8, 3);
      x.refuses(I, "product", 6, 5, 0);
      x.refuses(I, "product", 5, 6, 0);
      x.refuses(I, "product", 5, 0, 6);
      x.refuses(I, "product", 0, 0, -1);
      x.refuses(N, "product", 0, 5, 1);
      x.refuses(N, "product", 5, 0, 1);
      x.refuses(U, "product", 0, 0, 1);
    });
  }

  public static void main(String[] args) {
    newObject();
    blank();
    block();
    shift();
    planes();
    triples();
    product();
    Check.end();
  }
}
