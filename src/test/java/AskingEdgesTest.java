/** Promises 10 to 19: the boundary cases of what is asked of designs. */
final class AskingEdgesTest {
  private static final String I = "IndexOutOfBoundsException";
  private static final String N = "NoSuchElementException";
  private static final String A = "IllegalArgumentException";
  private static final int ALL = Integer.MAX_VALUE;
  private static final int MIN = Integer.MIN_VALUE;

  private AskingEdgesTest() {
  }

  /** The slots 0 and 5 hold designs of three points, with two blocks. */
  private static void atBothEnds(Edge x) {
    x.design(0, 3, 3, 6);
    x.design(5, 3, 3, 6);
  }

  private static void full(Edge x, int points, int bits) {
    x.takes("blank", 0, points);
    x.blocks(0, 160, bits);
  }

  private static void points() {
    Edge.test("10 points: the slot, 0 to 5", x -> {
      atBothEnds(x);
      x.slots(0, 6, "points", 0);
    });
    Edge.test("10 points: a slot that holds no design", x -> x.empty(0, 6, "points", 0));
    Edge.test("10 points: of one, and of 31", x -> {
      x.takes("blank", 0, 1);
      x.takes("blank", 5, 31);
      x.gives(1, "points", 0);
      x.gives(31, "points", 5);
    });
    Edge.test("10 points: a slot of tables, or of rows, holds no design", x -> {
      x.takes("shifts", 0, 3, 1, 1);
      x.takes("doubled", 0, 2);
      x.refuses(N, "points", 0);
    });
  }

  private static void blocks() {
    Edge.test("11 blocks: the slot, 0 to 5", x -> {
      atBothEnds(x);
      x.slots(0, 6, "blocks", 0);
    });
    Edge.test("11 blocks: a slot that holds no design", x -> x.empty(0, 6, "blocks", 0));
    Edge.test("11 blocks: a design without blocks has 0", x -> {
      x.takes("blank", 0, 31);
      x.gives(0, "blocks", 0);
    });
    Edge.test("11 blocks: a full one has 160", x -> {
      full(x, 31, 1);
      x.gives(160, "blocks", 0);
    });
  }

  private static void bitsOf() {
    Edge.test("12 bitsOf: the slot, 0 to 5", x -> {
      atBothEnds(x);
      x.slots(0, 6, "bitsOf", 0, 0);
    });
    Edge.test("12 bitsOf: a slot that holds no design", x -> x.empty(0, 6, "bitsOf", 0, 0));
    Edge.test("12 bitsOf: the block, from 0 to the last one", x -> {
      x.design(0, 3, 3, 6, 5);
      x.between(N, 1, 0, 2, "bitsOf", 0, 0);
      x.gives(3, "bitsOf", 0, 0);
      x.gives(5, "bitsOf", 0, 2);
    });
    Edge.test("12 bitsOf: of 160 blocks", x -> {
      full(x, 31, ALL);
      x.between(N, 1, 0, 159, "bitsOf", 0, 0);
      x.gives(ALL, "bitsOf", 0, 159);
    });
    Edge.test("12 bitsOf: a design without blocks", x -> {
      x.takes("blank", 0, 3);
      x.refuses(N, "bitsOf", 0, 0);
      x.refuses(N, "bitsOf", 0, -1);
    });
    Edge.test("12 bitsOf: a block that was there, and is no more", x -> {
      x.design(0, 3, 3, 6);
      x.takes("undo");
      x.refuses(N, "bitsOf", 0, 1);
      x.takes("blank", 0, 3);
      x.refuses(N, "bitsOf", 0, 0);
    });
    Edge.test("12 bitsOf: no such slot ahead of no such block", x -> {
      x.refuses(I, "bitsOf", 6, -1);
      x.refuses(I, "bitsOf", -1, 0);
    });
  }

  private static void often() {
    Edge.test("13 often: the slot, 0 to 5", x -> {
      atBothEnds(x);
      x.slots(0, 6, "often", 0, 1);
    });
    Edge.test("13 often: a slot that holds no design", x -> x.empty(0, 6, "often", 0, 0));
    Edge.test("13 often: the point, from 0 to the last one", x -> {
      x.design(0, 3, 3, 6, 2);
      x.between(N, 1, 0, 2, "often", 0, 0);
      x.refuses(N, "often", 0, 32);
      x.refuses(N, "often", 0, -32);
      x.refuses(N, "often", 0, 33);
    });
    Edge.test("13 often: the point 30 is the last one of 31", x -> {
      x.design(0, 31, ALL, 1 << 30);
      x.between(N, 1, 0, 30, "often", 0, 0);
      x.gives(2, "often", 0, 30);
      x.gives(1, "often", 0, 0);
    });
    Edge.test("13 often: a point that is in no block, and one that is in all", x -> {
      x.design(0, 3, 2, 6, 2);
      x.gives(0, "often", 0, 0);
      x.gives(3, "often", 0, 1);
    });
    Edge.test("13 often: a design without blocks", x -> {
      x.takes("blank", 0, 1);
      x.gives(0, "often", 0, 0);
      x.refuses(N, "often", 0, 1);
    });
    Edge.test("13 often: a point that is in 160 blocks", x -> {
      full(x, 1, 1);
      x.gives(160, "often", 0, 0);
    });
    Edge.test("13 often: no such slot ahead of no such point", x -> {
      x.refuses(I, "often", 6, -1);
      x.refuses(I, "often", -1, 0);
    });
  }

  private static void pairs() {
    Edge.test("14 pairs: the slot, 0 to 5", x -> {
      atBothEnds(x);
      x.slots(0, 6, "pairs", 0, 1, 2);
    });
    Edge.test("14 pairs: a slot that holds no design", x -> x.empty(0, 6, "pairs", 0, 0, 0));
    Edge.test("14 pairs: the one point, from 0 to the last one", x -> {
      x.design(0, 3, 3, 6, 2);
      x.between(N, 1, 0, 2, "pairs", 0, 0, 1);
      x.refuses(N, "pairs", 0, 32, 1);
    });
    Edge.test("14 pairs: the other point, from 0 to the last one", x -> {
      x.design(0, 3, 3, 6, 2);
      x.between(N, 2, 0, 2, "pairs", 0, 1, 0);
      x.refuses(N, "pairs", 0, 1, 32);
    });
    Edge.test("14 pairs: the last points of 31", x -> {
      x.design(0, 31, ALL, 3 << 29);
      x.gives(2, "pairs", 0, 29, 30);
      x.gives(1, "pairs", 0, 30, 0);
      x.refuses(N, "pairs", 0, 30, 31);
      x.refuses(N, "pairs", 0, 31, 30);
      x.refuses(N, "pairs", 0, 31, 31);
    });
    Edge.test("14 pairs: the other one, or the same", x -> {
      x.design(0, 3, 3, 6, 2);
      x.gives(1, "pairs", 0, 0, 0);
      x.gives(3, "pairs", 0, 1, 1);
      x.gives(1, "pairs", 0, 2, 1);
      x.gives(0, "pairs", 0, 2, 0);
    });
    Edge.test("14 pairs: a design without blocks", x -> {
      x.takes("blank", 0, 2);
      x.gives(0, "pairs", 0, 0, 1);
      x.gives(0, "pairs", 0, 1, 1);
    });
    Edge.test("14 pairs: no such slot ahead of no such point", x -> {
      x.refuses(I, "pairs", 6, -1, 0);
      x.refuses(I, "pairs", -1, 0, 31);
    });
  }

  private static void meets() {
    Edge.test("15 meets: the slot, 0 to 5", x -> {
      atBothEnds(x);
      x.slots(0, 6, "meets", 0, 0, 1);
    });
    Edge.test("15 meets: a slot that holds no design", x -> x.empty(0, 6, "meets", 0, 0, 0));
    Edge.test("15 meets: the number of the one, from 0 to the last one", x -> {
      x.design(0, 3, 3, 6, 2);
      x.between(N, 1, 0, 2, "meets", 0, 0, 1);
    });
    Edge.test("15 meets: the number of the other one, from 0 to the last one", x -> {
      x.design(0, 3, 3, 6, 2);
      x.between(N, 2, 0, 2, "meets", 0, 1, 0);
    });
    Edge.test("15 meets: of 160 blocks", x -> {
      full(x, 31, ALL);
      x.gives(31, "meets", 0, 159, 0);
      x.refuses(N, "meets", 0, 160, 0);
      x.refuses(N, "meets", 0, 0, 160);
    });
    Edge.test("15 meets: the other one, or the same", x -> {
      x.design(0, 31, ALL, 1);
      x.gives(31, "meets", 0, 0, 0);
      x.gives(1, "meets", 0, 1, 1);
    });
    Edge.test("15 meets: no point in common, and one", x -> {
      x.design(0, 31, 1 << 30, 1, 1 << 30 | 1);
      x.gives(0, "meets", 0, 0, 1);
      x.gives(1, "meets", 0, 0, 2);
    });
    Edge.test("15 meets: a design without blocks", x -> {
      x.takes("blank", 0, 2);
      x.refuses(N, "meets", 0, 0, 0);
    });
    Edge.test("15 meets: no such slot ahead of no such block", x -> {
      x.refuses(I, "meets", 6, -1, 0);
      x.refuses(I, "meets", -1, 0, 0);
    });
  }

  private static void distance() {
    Edge.test("16 distance: the slot, 0 to 5", x -> {
      atBothEnds(x);
      x.slots(0, 6, "distance", 0, 0, 1);
    });
    Edge.test("16 distance: a slot that holds no design", x -> x.empty(0, 6, "distance", 0, 0, 0));
    Edge.test("16 distance: the number of the one, from 0 to the last one", x -> {
      x.design(0, 3, 3, 6, 2);
      x.between(N, 1, 0, 2, "distance", 0, 0, 1);
    });
    Edge.test("16 distance: the number of the other one, from 0 to the last one", x -> {
      x.design(0, 3, 3, 6, 2);
      x.between(N, 2, 0, 2, "distance", 0, 1, 0);
    });
    Edge.test("16 distance: of 160 blocks", x -> {
      full(x, 31, ALL);
      x.gives(0, "distance", 0, 159, 0);
      x.refuses(N, "distance", 0, 160, 0);
      x.refuses(N, "distance", 0, 0, 160);
    });
    Edge.test("16 distance: the other one, or the same", x -> {
      x.design(0, 31, ALL, 1);
      x.gives(0, "distance", 0, 0, 0);
      x.gives(30, "distance", 0, 0, 1);
      x.gives(30, "distance", 0, 1, 0);
    });
    Edge.test("16 distance: all points, each in one alone", x -> {
      x.design(0, 31, 1 << 30, ALL >>> 1);
      x.gives(31, "distance", 0, 0, 1);
    });
    Edge.test("16 distance: two blocks that are alike", x -> {
      x.design(0, 3, 5, 5);
      x.gives(0, "distance", 0, 0, 1);
    });
    Edge.test("16 distance: a design without blocks", x -> {
      x.takes("blank", 0, 2);
      x.refuses(N, "distance", 0, 0, 0);
    });
    Edge.test("16 distance: no such slot ahead of no such block", x -> {
      x.refuses(I, "distance", 6, -1, 0);
      x.refuses(I, "distance", -1, 0, 0);
    });
  }

  private static void even(boolean want, String sentence, int points, int... blocks) {
    Edge.test("17 isEven: " + sentence, x -> {
      x.design(0, points, blocks);
      x.gives(want, "isEven", 0);
    });
  }

  private static void isEven() {
    Edge.test("17 isEven: the slot, 0 to 5", x -> {
      atBothEnds(x);
      x.slots(0, 6, "isEven", 0);
    });
    Edge.test("17 isEven: a slot that holds no design", x -> x.empty(0, 6, "isEven", 0));
    even(false, "two points or more: not with one", 1, 1);
    even(false, "two points or more: not with one, and no blocks", 1);
    even(false, "two points leave no size between two and not all", 2, 3);
    even(false, "two points, each alone", 2, 1, 2);
    even(true, "three points, the fewest that can", 3, 3, 5, 6);
    even(false, "and a block: not without", 3);
    even(false, "the same number of points: the first block has more", 4, 15, 3, 5, 9, 6, 10, 12);
    even(false, "the same number of points: the last block has more", 4, 3, 5, 9, 6, 10, 12, 15);
    even(false, "the same number of points: the second block has fewer", 3, 3, 1, 5, 6);
    even(false, "the same number of points: of two blocks one has more", 4, 3, 7);
    even(false, "the same number of points: the last block has fewer", 3, 3, 5, 6, 1);
    even(true, "the same number of points: 2", 4, 3, 5, 9, 6, 10, 12);
    even(true, "the same number of points: all but one", 4, 7, 11, 13, 14);
    even(false, "two or more: not with one", 3, 1, 2, 4);
    even(false, "but not all", 3, 7);
    even(false, "but not all, also if these come often", 31, ALL, ALL);
    even(false, "each pair in the same number of blocks: the first pair is in more", 3, 3, 5, 6, 3);
    even(false, "each pair in the same number of blocks: the last pair is in more", 3, 3, 5, 6, 6);
    even(false, "each pair in the same number of blocks: the last pair is in none", 3, 3, 5);
    even(false, "each pair in the same number of blocks: the pair 0, 1 is in none", 3, 5, 6);
    even(true, "one or more: two", 3, 3, 5, 6, 6, 5, 3);
    Edge.test("17 isEven: the most points", x -> {
      x.takes("projective", 0, 5);
      x.gives(true, "isEven", 0);
      x.takes("block", 0, 63);
      x.gives(false, "isEven", 0);
    });
    Edge.test("17 isEven: the most blocks", x -> {
      // Each of the 10 triples of 5 points 16 times.
      x.takes("blank", 0, 5);
      for (int bits = 1; bits < 32; bits++) {
        x.blocks(0, Integer.bitCount(bits) == 3 ? 16 : 0, bits);
      }
      x.gives(160, "blocks", 0);
      x.gives(true, "isEven", 0);
      x.takes("undo");
      x.gives(false, "isEven", 0);
    });
  }

  private static void faulty(int want, String sentence, int points, int... blocks) {
    Edge.test("18 fault: " + sentence, x -> {
      x.design(0, points, blocks);
      x.gives(want, "fault", 0);
    });
  }

  private static void fault() {
    Edge.test("18 fault: the slot, 0 to 5", x -> {
      atBothEnds(x);
      x.slots(0, 6, "fault", 0);
    });
    Edge.test("18 fault: a slot that holds no design", x -> x.empty(0, 6, "fault", 0));
    faulty(-1, "-1 if there is none: one point has no pair", 1, 1, 1);
    faulty(-1, "-1 if there is none: two points have no pair but 0, 1", 2, 3, 1);
    faulty(-1, "-1 if there is none: no blocks", 31);
    faulty(-1, "-1 if there is none: no pair is in a block", 3, 1, 2, 4);
    faulty(-1, "-1 if there is none, also if blocks are of unlike sizes", 3, 7, 1);
    faulty(2, "the pair 0, 1 alone is in a block: 0, 2 is the first one", 3, 3);
    faulty(2, "the pair 0, 2 alone is in a block", 31, 5);
    faulty(2930, "the pair 29, 30, the last one", 31, 3 << 29);
    faulty(30, "the greater point of two digits", 31, 1 << 30 | 1);
    faulty(1011, "the lesser point of two digits", 31, 3 << 10);
    faulty(3, "the least number: the lesser point goes ahead", 4, 9, 6);
    faulty(2, "fewer than the pair 0, 1: a pair in none", 3, 3, 3, 6);
  }

  private static void cause() {
    Edge.test("19 cause: the points, 2 to 100000, 2 leaving no size", x -> {
      x.refuses(A, "cause", 2, 2, 1);
      x.refuses(A, "cause", 2, 1, 1);
      x.between(A, 0, 3, 100000, "cause", 0, 2, 1);
      x.refuses(A, "cause", 1, 2, 1);
      x.refuses(A, "cause", 0, 2, 1);
      x.refuses(A, "cause", -1, 2, 1);
    });
    Edge.test("19 cause: the size, 2 or more, fewer than there are points", x -> {
      x.between(A, 1, 2, 6, "cause", 7, 0, 1);
      x.refuses(A, "cause", 7, 0, 1);
      x.refuses(A, "cause", 7, 8, 1);
      x.between(A, 1, 2, 99999, "cause", 100000, 0, 1);
    });
    Edge.test("19 cause: how often, 1 to 100000", x -> {
      x.between(A, 2, 1, 100000, "cause", 7, 3, 0);
      x.refuses(A, "cause", 7, 3, -1);
    });
    Edge.test("19 cause: all numbers out of range", x -> x.refuses(A, "cause", MIN, MIN, MIN));
    answersOfCause();
    causeOfGreatNumbers();
  }

  private static void answersOfCause() {
    Edge.test("19 cause: 'r' ahead of 'b', 'f' and 's'", x -> {
      x.gives('r', "cause", 6, 3, 1);
      x.gives('r', "cause", 8, 4, 1);
      x.gives('r', "cause", 100000, 99999, 1);
    });
    Edge.test("19 cause: 'b', each point being in a whole number of blocks", x -> {
      x.gives('b', "cause", 8, 3, 2);
      x.gives('b', "cause", 5, 3, 2);
      x.gives('-', "cause", 5, 3, 3);
    });
    Edge.test("19 cause: 'b' ahead of 'f'", x -> x.gives('b', "cause", 11, 6, 1));
    Edge.test("19 cause: 'f', fewer blocks than points", x -> {
      // 8 blocks of 6 of the 16 points.
      x.gives('f', "cause", 16, 6, 1);
      x.gives('f', "cause", 21, 6, 1);
    });
    Edge.test("19 cause: as many blocks as points are not fewer", x -> x.gives('-', "cause", 7, 3, 1));
    Edge.test("19 cause: 's', an even number of points, and no square", x -> {
      x.gives('s', "cause", 22, 7, 2);
      x.gives('s', "cause", 34, 12, 4);
    });
    Edge.test("19 cause: an odd number of points is no 's'", x -> x.gives('-', "cause", 43, 7, 1));
    Edge.test("19 cause: a square is no 's', be it 1", x -> {
      x.gives('-', "cause", 4, 3, 2);
      x.gives('-', "cause", 16, 6, 2);
      x.gives('-', "cause", 36, 15, 6);
    });
    Edge.test("19 cause: more blocks than points are no 's'", x -> {
      // 12 blocks of 3 of the 9 points; 14 of 4 of the 8.
      x.gives('-', "cause", 9, 3, 1);
      x.gives('-', "cause", 8, 4, 3);
      x.gives('-', "cause", 6, 2, 1);
    });
    Edge.test("19 cause: the fewest points", x -> {
      x.gives('-', "cause", 3, 2, 1);
      x.gives('-', "cause", 3, 2, 100000);
    });
  }

  private static void causeOfGreatNumbers() {
    Edge.test("19 cause: products beyond an int", x -> {
      x.gives('-', "cause", 100000, 2, 100000);
      x.gives('-', "cause", 99999, 3, 100000);
      x.gives('-', "cause", 100000, 99999, 99998);
      x.gives('r', "cause", 100000, 50000, 100000);
    });
    Edge.test("19 cause: at the edges as a second telling of the document", x -> {
      PlainOffice plain = new PlainOffice();
      int[] numbers = {2, 3, 4, 5, 99996, 99997, 99998, 99999, 100000};
      for (int points : new int[] {3, 4, 46341, 65536, 99999, 100000}) {
        for (int i = 0; i < numbers.length; i++) {
          int size = Math.min(numbers[i], points - 1);
          x.gives(plain.cause(points, size, numbers[i]), "cause", points, size, numbers[i]);
          x.gives(plain.cause(points, size, 1), "cause", points, size, 1);
          x.gives(plain.cause(points, size, size - 1), "cause", points, size, size - 1);
        }
      }
    });
    Edge.test("19 cause: an 's' of the most points", x -> {
      // As many blocks as points each time; the sizes less how often are 4641 and 1, which is a square.
      x.gives('s', "cause", 100000, 4879, 238);
      x.gives('s', "cause", 100000, 95121, 90480);
      x.gives('-', "cause", 100000, 99999, 99998);
    });
  }

  public static void main(String[] args) {
    points();
    blocks();
    bitsOf();
    often();
    pairs();
    meets();
    distance();
    isEven();
    fault();
    cause();
    Check.end();
  }
}
