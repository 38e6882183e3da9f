/** Promises 20 to 27: the boundary cases of what is made of a design, and of its covers and ways. */
final class DerivedEdgesTest {
  private static final String I = "IndexOutOfBoundsException";
  private static final String N = "NoSuchElementException";
  private static final String A = "IllegalArgumentException";
  private static final String U = "UnsupportedOperationException";
  private static final int ALL = Integer.MAX_VALUE;

  private DerivedEdgesTest() {
  }

  private static void atBothEnds(Edge x) {
    x.design(0, 3, 3, 6);
    x.design(5, 3, 3, 6);
  }

  /** The slot 0 becomes single points, each one told so many times. */
  private static void singles(Edge x, int... times) {
    x.takes("blank", 0, times.length);
    for (int point = 0; point < times.length; point++) {
      x.blocks(0, times[point], 1 << point);
    }
  }

  /** One of the 24 orders of 0 to 3. */
  private static int[] orderOf(int code) {
    java.util.List<Integer> left = new java.util.ArrayList<>(java.util.List.of(0, 1, 2, 3));
    int[] order = new int[4];
    for (int i = 0, rest = code; i < 4; i++) {
      order[i] = left.remove(rest % (4 - i));
      rest /= 4 - i;
    }
    return order;
  }

  private static void rest() {
    Edge.test("20 rest: the slot, 0 to 5", x -> {
      atBothEnds(x);
      x.slots(0, 6, "rest", 0, 1);
    });
    Edge.test("20 rest: the slot that becomes it, 0 to 5", x -> {
      x.design(1, 3, 3, 6);
      x.slots(1, 6, "rest", 1, 0);
      x.blocksAre(0, 4, 1);
      x.blocksAre(5, 4, 1);
    });
    Edge.test("20 rest: a slot that holds no design", x -> x.empty(0, 6, "rest", 0, 1));
    Edge.test("20 rest: no blocks", x -> {
      x.takes("blank", 0, 31);
      x.gives(0, "rest", 0, 1);
      x.gives(31, "points", 1);
      x.blocksAre(1);
    });
    Edge.test("20 rest: the first block, or the last one, has all points", x -> {
      x.design(0, 3, 7, 1);
      x.design(1, 3, 1, 7);
      x.design(2, 31, ALL);
      x.refuses(U, "rest", 0, 3);
      x.refuses(U, "rest", 1, 3);
      x.refuses(U, "rest", 2, 3);
    });
    Edge.test("20 rest: of one point each block has all", x -> {
      x.design(0, 1, 1);
      x.refuses(U, "rest", 0, 0);
    });
    Edge.test("20 rest: all points but one, and one", x -> {
      x.design(0, 31, ALL - 1, 1 << 30);
      x.gives(2, "rest", 0, 0);
      x.blocksAre(0, 1, ALL >>> 1);
    });
    Edge.test("20 rest: 160 blocks", x -> {
      x.takes("blank", 0, 2);
      x.blocks(0, 160, 2);
      x.gives(160, "rest", 0, 5);
      x.gives(1, "bitsOf", 5, 159);
    });
    Edge.test("20 rest: what is documented first is thrown", x -> {
      x.design(0, 1, 1);
      x.refuses(I, "rest", 6, 0);
      x.refuses(I, "rest", 1, 6);
      x.refuses(I, "rest", 0, -1);
      x.refuses(N, "rest", 1, 0);
    });
  }

  private static void dual() {
    Edge.test("21 dual: the slot, 0 to 5", x -> {
      atBothEnds(x);
      x.slots(0, 6, "dual", 0, 1);
    });
    Edge.test("21 dual: the slot that becomes it, 0 to 5", x -> {
      x.design(1, 3, 3, 6);
      x.slots(1, 6, "dual", 1, 0);
      x.blocksAre(0, 1, 3, 2);
      x.blocksAre(5, 1, 3, 2);
    });
    Edge.test("21 dual: a slot that holds no design", x -> x.empty(0, 6, "dual", 0, 1));
    Edge.test("21 dual: no blocks", x -> {
      x.takes("blank", 0, 1);
      x.refuses(U, "dual", 0, 1);
    });
    Edge.test("21 dual: 31 blocks, and more", x -> {
      x.takes("blank", 0, 2);
      x.blocks(0, 30, 1);
      x.takes("block", 0, 3);
      x.gives(31, "dual", 0, 1);
      x.blocksAre(1, ALL, 1 << 30);
      x.takes("block", 0, 3);
      x.refuses(U, "dual", 0, 1);
      x.blocks(0, 128, 3);
      x.refuses(U, "dual", 0, 1);
    });
    Edge.test("21 dual: the first point, or the last one, is in no block", x -> {
      x.design(0, 3, 6);
      x.design(1, 3, 3);
      x.design(2, 31, ALL >>> 1);
      x.refuses(U, "dual", 0, 3);
      x.refuses(U, "dual", 1, 3);
      x.refuses(U, "dual", 2, 3);
    });
    Edge.test("21 dual: one point and one block", x -> {
      x.design(0, 1, 1);
      x.gives(1, "dual", 0, 0);
      x.blocksAre(0, 1);
    });
    Edge.test("21 dual: 31 points in one block", x -> {
      x.design(0, 31, ALL);
      x.gives(1, "dual", 0, 1);
      x.gives(31, "blocks", 1);
      x.gives(1, "bitsOf", 1, 30);
    });
    Edge.test("21 dual: what is documented first is thrown", x -> {
      x.takes("blank", 0, 1);
      x.refuses(I, "dual", 6, 0);
      x.refuses(I, "dual", 1, 6);
      x.refuses(I, "dual", 0, -1);
      x.refuses(N, "dual", 1, 0);
    });
  }

  private static void part() {
    Edge.test("22 part: the slot, 0 to 5", x -> {
      atBothEnds(x);
      x.slots(0, 6, "part", 0, 0, true, 1);
    });
    Edge.test("22 part: the slot that becomes it, 0 to 5", x -> {
      x.design(1, 3, 3, 6);
      x.slots(3, 6, "part", 1, 0, false, 0);
      x.blocksAre(0, 1);
      x.blocksAre(5, 1);
    });
    Edge.test("22 part: a slot that holds no design", x -> x.empty(0, 6, "part", 0, 0, true, 1));
    Edge.test("22 part: the block, from 0 to the last one", x -> {
      x.design(0, 3, 3, 6, 5);
      x.between(N, 1, 0, 2, "part", 0, 0, true, 1);
      x.between(N, 1, 0, 2, "part", 0, 0, false, 1);
    });
    Edge.test("22 part: a design without blocks has no such block", x -> {
      x.takes("blank", 0, 3);
      x.refuses(N, "part", 0, 0, true, 1);
      x.refuses(N, "part", 0, 0, false, 1);
    });
    Edge.test("22 part: beside a block of all points there are none", x -> {
      x.design(0, 3, 1, 7);
      x.design(1, 31, ALL);
      x.design(2, 1, 1);
      x.refuses(U, "part", 0, 1, false, 3);
      x.refuses(U, "part", 1, 0, false, 3);
      x.refuses(U, "part", 2, 0, false, 3);
    });
    partLeaves();
    Edge.test("22 part: what is documented first is thrown", x -> {
      x.design(0, 1, 1);
      x.refuses(I, "part", 6, 0, false, 0);
      x.refuses(I, "part", 0, 0, false, 6);
      x.refuses(I, "part", 0, 1, false, -1);
      x.refuses(I, "part", 1, 0, false, 6);
      x.refuses(N, "part", 1, 0, false, 0);
      x.refuses(N, "part", 0, 1, false, 0);
    });
  }

  private static void partLeaves() {
    Edge.test("22 part: in the only block", x -> {
      x.design(0, 31, 1 << 30);
      x.gives(0, "part", 0, 0, true, 1);
      x.gives(1, "points", 1);
    });
    Edge.test("22 part: beside the only block", x -> {
      x.design(0, 31, 1 << 30);
      x.gives(0, "part", 0, 0, false, 1);
      x.gives(30, "points", 1);
    });
    Edge.test("22 part: in a block of all points", x -> {
      x.design(0, 31, 5, ALL, 1 << 30);
      x.gives(2, "part", 0, 1, true, 1);
      x.gives(31, "points", 1);
      x.blocksAre(1, 5, 1 << 30);
    });
    Edge.test("22 part: of each block of another number, also if it is alike", x -> {
      x.design(0, 4, 12, 12, 12);
      x.gives(2, "part", 0, 1, true, 1);
      x.blocksAre(1, 3, 3);
      x.gives(0, "part", 0, 1, false, 1);
      x.gives(2, "points", 1);
    });
    Edge.test("22 part: what it has of these, if that is something", x -> {
      x.design(0, 4, 6, 9, 1, 7);
      x.gives(1, "part", 0, 0, true, 1);
      x.blocksAre(1, 3);
      x.gives(3, "part", 0, 0, false, 1);
      x.blocksAre(1, 3, 1, 1);
    });
    Edge.test("22 part: numbered anew from 0, the point 30 becoming the point 0", x -> {
      x.design(0, 31, ALL >>> 1, 1 << 30 | 7);
      x.gives(1, "part", 0, 0, false, 1);
      x.gives(1, "points", 1);
      x.blocksAre(1, 1);
      x.gives(1, "part", 0, 0, true, 1);
      x.gives(30, "points", 1);
      x.blocksAre(1, 7);
    });
    Edge.test("22 part: 159 of 160 blocks", x -> {
      x.takes("blank", 0, 2);
      x.blocks(0, 160, 3);
      x.gives(159, "part", 0, 159, true, 0);
      x.gives(3, "bitsOf", 0, 158);
    });
    Edge.test("22 part: into itself", x -> {
      x.design(0, 3, 3, 6);
      x.gives(1, "part", 0, 0, true, 0);
      x.gives(2, "points", 0);
      x.blocksAre(0, 2);
    });
  }

  private static void covers() {
    Edge.test("23 covers: the slot, 0 to 5", x -> {
      atBothEnds(x);
      x.slots(0, 6, "covers", 0);
    });
    Edge.test("23 covers: a slot that holds no design", x -> x.empty(0, 6, "covers", 0));
    Edge.test("23 covers: no blocks", x -> {
      x.takes("blank", 0, 1);
      x.gives(0, "covers", 0);
    });
    Edge.test("23 covers: a point that no block has", x -> {
      x.design(0, 31, ALL >>> 1, 1, 2);
      x.gives(0, "covers", 0);
    });
    Edge.test("23 covers: all blocks cross", x -> {
      x.design(0, 3, 3, 5, 6);
      x.gives(0, "covers", 0);
    });
    Edge.test("23 covers: one block of all points", x -> {
      x.design(0, 31, ALL);
      x.gives(1, "covers", 0);
    });
    Edge.test("23 covers: of blocks that are alike, each one for itself", x -> {
      x.design(0, 31, ALL, ALL, ALL);
      x.gives(3, "covers", 0);
    });
    Edge.test("23 covers: of blocks that are alike, where some are in none", x -> {
      x.design(0, 4, 3, 3, 1, 14, 3, 14, 1, 1);
      x.gives(6, "covers", 0);
      x.gives(2, "coverAt", 0, 0, 0);
      x.gives(3, "coverAt", 0, 0, 1);
      x.gives(5, "coverAt", 0, 5, 0);
      x.gives(7, "coverAt", 0, 5, 1);
      x.takes("block", 0, 12);
      x.gives(9, "covers", 0);
      x.gives(4, "coverAt", 0, 6, 0);
      x.gives(8, "coverAt", 0, 6, 1);
    });
    Edge.test("23 covers: of 40 blocks, many of them alike, that leave three points over", x -> {
      x.takes("blank", 0, 31);
      for (int i = 0; i < 34; i++) {
        x.takes("block", 0, 3 << 2 * (i % 14));
      }
      for (int i = 0; i < 6; i++) {
        x.takes("block", 0, (7 << 28) - (1 << 28 + i % 3));
      }
      x.gives(0, "covers", 0);
    });
    Edge.test("23 covers: of another slot than those before, with fewer blocks and points", x -> {
      x.design(1, 2, 3, 1);
      x.design(2, 3, 4, 3, 7);
      singles(x, 3, 4, 5);
      x.gives(60, "covers", 0);
      x.gives(1, "covers", 1);
      x.gives(2, "covers", 2);
      x.gives(60, "covers", 0);
    });
    Edge.test("23 covers: a point that one block has, behind a point that more have", x -> {
      singles(x, 4, 1);
      x.gives(4, "covers", 0);
      singles(x, 1, 4);
      x.gives(4, "covers", 0);
    });
    Edge.test("23 covers: by the least number at the first place where they differ", x -> {
      int[] parts = {1, 6, 3, 4};
      for (int code = 0; code < 24; code++) {
        int[] order = orderOf(code);
        x.takes("blank", 0, 3);
        for (int i = 0; i < 4; i++) {
          x.takes("block", 0, parts[order[i]]);
        }
        // Both covers have two blocks, and none in common: so that with the block 0 goes ahead.
        int other = 1;
        while ((parts[order[0]] | parts[order[other]]) != 7 || (parts[order[0]] & parts[order[other]]) != 0) {
          other++;
        }
        x.gives(0, "coverAt", 0, 0, 0);
        x.gives(other, "coverAt", 0, 0, 1);
        x.gives(other == 1 ? 2 : 1, "coverAt", 0, 1, 0);
      }
    });
    Edge.test("23 covers: 40 blocks, and more", x -> {
      singles(x, 40);
      x.gives(40, "covers", 0);
      x.takes("block", 0, 1);
      x.refuses(U, "covers", 0);
    });
    Edge.test("23 covers: 41 blocks without a cover", x -> {
      singles(x, 40, 0);
      x.gives(0, "covers", 0);
      x.takes("block", 0, 1);
      x.refuses(U, "covers", 0);
    });
    Edge.test("23 covers: 160 blocks", x -> {
      singles(x, 160);
      x.refuses(U, "covers", 0);
    });
    Edge.test("23 covers: 60, and 61", x -> {
      singles(x, 3, 4, 5);
      x.gives(60, "covers", 0);
      x.takes("block", 0, 7);
      x.refuses(U, "covers", 0);
    });
    Edge.test("23 covers: 60, and 64, of blocks of one point", x -> {
      singles(x, 4, 15);
      x.gives(60, "covers", 0);
      x.takes("block", 0, 2);
      x.refuses(U, "covers", 0);
    });
    Edge.test("23 covers: far more than 60", x -> {
      singles(x, 4, 4, 4, 4, 4, 4, 4, 4, 4, 4);
      x.refuses(U, "covers", 0);
    });
    Edge.test("23 covers: one of 31 blocks", x -> {
      singles(x, 1, 1, 1, 1, 1, 1, 1, 1, 1, 1, 1, 1, 1, 1, 1, 1, 1, 1, 1, 1, 1, 1, 1, 1, 1, 1, 1, 1, 1, 1, 1);
      x.gives(1, "covers", 0);
      x.gives(31, "coverSize", 0, 0);
      x.gives(30, "coverAt", 0, 0, 30);
    });
    Edge.test("23 covers: what is documented first is thrown", x -> {
      singles(x, 41);
      x.refuses(I, "covers", 6);
      x.refuses(N, "covers", 1);
    });
  }

  private static void coverSize() {
    Edge.test("24 coverSize: the slot, 0 to 5", x -> {
      x.design(0, 3, 7);
      x.design(5, 3, 7);
      x.slots(0, 6, "coverSize", 0, 0);
    });
    Edge.test("24 coverSize: a slot that holds no design", x -> x.empty(0, 6, "coverSize", 0, 0));
    Edge.test("24 coverSize: its number, from 0 to the last one", x -> {
      x.design(0, 2, 3, 1, 2);
      x.between(A, 1, 0, 1, "coverSize", 0, 0);
      x.gives(1, "coverSize", 0, 0);
      x.gives(2, "coverSize", 0, 1);
    });
    Edge.test("24 coverSize: of 60", x -> {
      singles(x, 3, 4, 5);
      x.between(A, 1, 0, 59, "coverSize", 0, 0);
      x.gives(3, "coverSize", 0, 59);
    });
    Edge.test("24 coverSize: no cover", x -> {
      x.design(0, 3, 3, 5);
      x.refuses(A, "coverSize", 0, 0);
      x.refuses(A, "coverSize", 0, -1);
    });
    Edge.test("24 coverSize: a cover of blocks that are gone", x -> {
      x.design(0, 2, 3, 1, 2);
      x.gives(2, "coverSize", 0, 1);
      x.takes("undo");
      x.refuses(A, "coverSize", 0, 1);
      x.gives(1, "coverSize", 0, 0);
    });
    Edge.test("24 coverSize: 40 blocks, and more", x -> {
      singles(x, 40);
      x.gives(1, "coverSize", 0, 39);
      x.takes("block", 0, 1);
      x.refuses(U, "coverSize", 0, 0);
    });
    Edge.test("24 coverSize: more than 60 covers", x -> {
      singles(x, 3, 4, 5);
      x.takes("block", 0, 7);
      x.refuses(U, "coverSize", 0, 0);
    });
    Edge.test("24 coverSize: what is documented first is thrown", x -> {
      singles(x, 41);
      x.refuses(I, "coverSize", 6, -1);
      x.refuses(N, "coverSize", 1, -1);
      x.refuses(U, "coverSize", 0, -1);
      singles(x, 3, 4, 5);
      x.takes("block", 0, 7);
      x.refuses(U, "coverSize", 0, 61);
    });
  }

  private static void coverAt() {
    Edge.test("25 coverAt: the slot, 0 to 5", x -> {
      x.design(0, 3, 7);
      x.design(5, 3, 7);
      x.slots(0, 6, "coverAt", 0, 0, 0);
    });
    Edge.test("25 coverAt: a slot that holds no design", x -> x.empty(0, 6, "coverAt", 0, 0, 0));
    Edge.test("25 coverAt: its number, from 0 to the last one", x -> {
      x.design(0, 2, 3, 1, 2);
      x.between(A, 1, 0, 1, "coverAt", 0, 0, 0);
      x.gives(0, "coverAt", 0, 0, 0);
      x.gives(1, "coverAt", 0, 1, 0);
    });
    Edge.test("25 coverAt: its place, from 0 to the last one", x -> {
      x.design(0, 2, 3, 1, 2);
      x.between(A, 2, 0, 1, "coverAt", 0, 1, 0);
      x.between(A, 2, 0, 0, "coverAt", 0, 0, 0);
      x.gives(2, "coverAt", 0, 1, 1);
    });
    Edge.test("25 coverAt: of 60", x -> {
      singles(x, 3, 4, 5);
      x.between(A, 1, 0, 59, "coverAt", 0, 0, 0);
      x.between(A, 2, 0, 2, "coverAt", 0, 59, 0);
      x.gives(0, "coverAt", 0, 0, 0);
      x.gives(11, "coverAt", 0, 59, 2);
    });
    Edge.test("25 coverAt: no cover", x -> {
      x.design(0, 3, 3, 5);
      x.refuses(A, "coverAt", 0, 0, 0);
    });
    Edge.test("25 coverAt: the number 39, the last of 40 blocks, and more", x -> {
      singles(x, 40);
      x.gives(39, "coverAt", 0, 39, 0);
      x.takes("block", 0, 1);
      x.refuses(U, "coverAt", 0, 0, 0);
    });
    Edge.test("25 coverAt: more than 60 covers", x -> {
      singles(x, 3, 4, 5);
      x.takes("block", 0, 7);
      x.refuses(U, "coverAt", 0, 0, 0);
    });
    Edge.test("25 coverAt: what is documented first is thrown", x -> {
      singles(x, 41);
      x.refuses(I, "coverAt", 6, -1, -1);
      x.refuses(N, "coverAt", 1, -1, -1);
      x.refuses(U, "coverAt", 0, -1, -1);
    });
  }

  private static void parted(Object want, String sentence, int points, int... blocks) {
    Edge.test("26 isParted: " + sentence, x -> {
      x.design(0, points, blocks);
      x.gives(want, "isParted", 0);
    });
  }

  private static void isParted() {
    Edge.test("26 isParted: the slot, 0 to 5", x -> {
      atBothEnds(x);
      x.slots(0, 6, "isParted", 0);
    });
    Edge.test("26 isParted: a slot that holds no design", x -> x.empty(0, 6, "isParted", 0));
    parted(true, "so it is without blocks", 1);
    parted(true, "so it is without blocks, of 31 points", 31);
    parted(false, "blocks, and no cover", 3, 3, 5);
    parted(true, "one cover of one block", 31, ALL);
    parted(false, "one block beside the covers", 3, 7, 3);
    parted(false, "each block in one: not in two", 2, 1, 2, 2);
    Edge.test("26 isParted: 14 blocks, and more", x -> {
      singles(x, 7, 7);
      x.gives(true, "isParted", 0);
      x.takes("block", 0, 3);
      x.refuses(U, "isParted", 0);
      singles(x, 14);
      x.gives(true, "isParted", 0);
      x.takes("block", 0, 1);
      x.refuses(U, "isParted", 0);
    });
    Edge.test("26 isParted: 15 blocks without a cover", x -> {
      singles(x, 14, 0);
      x.gives(false, "isParted", 0);
      x.takes("block", 0, 1);
      x.refuses(U, "isParted", 0);
    });
    Edge.test("26 isParted: 60 covers, and 61", x -> {
      singles(x, 3, 4, 5);
      x.gives(false, "isParted", 0);
      x.takes("block", 0, 7);
      x.refuses(U, "isParted", 0);
    });
    Edge.test("26 isParted: 48 covers, and 64", x -> {
      singles(x, 4, 4, 3);
      x.gives(false, "isParted", 0);
      x.takes("block", 0, 4);
      x.refuses(U, "isParted", 0);
    });
    Edge.test("26 isParted: what is documented first is thrown", x -> {
      singles(x, 15);
      x.refuses(I, "isParted", 6);
      x.refuses(N, "isParted", 1);
    });
  }

  private static void ways() {
    Edge.test("27 ways: the slot, 0 to 5", x -> {
      atBothEnds(x);
      x.slots(0, 6, "ways", 0);
    });
    Edge.test("27 ways: a slot that holds no design", x -> x.empty(0, 6, "ways", 0));
    Edge.test("27 ways: 7 points, and more", x -> {
      x.takes("blank", 0, 7);
      x.gives(5040, "ways", 0);
      for (int points : new int[] {8, 9, 31}) {
        x.takes("blank", 0, points);
        x.refuses(U, "ways", 0);
      }
    });
    Edge.test("27 ways: one point", x -> {
      x.design(0, 1, 1, 1);
      x.gives(1, "ways", 0);
    });
    Edge.test("27 ways: no blocks", x -> {
      x.takes("blank", 0, 2);
      x.gives(2, "ways", 0);
    });
    Edge.test("27 ways: one way alone", x -> {
      x.design(0, 3, 1, 3);
      x.gives(1, "ways", 0);
    });
    Edge.test("27 ways: one way alone, of 7 points", x -> {
      singles(x, 0, 1, 2, 3, 4, 5, 6);
      x.gives(1, "ways", 0);
      x.design(0, 7, 1, 3, 6, 12, 24, 48, 96);
      x.gives(1, "ways", 0);
    });
    Edge.test("27 ways: two points do not stand at one place", x -> {
      x.design(0, 3, 3, 5, 7);
      x.gives(2, "ways", 0);
      x.design(0, 3, 5, 6, 7);
      x.gives(2, "ways", 0);
    });
    Edge.test("27 ways: a row and a ring of 7 points, and the least plane", x -> {
      x.design(0, 7, 3, 6, 12, 24, 48, 96);
      x.gives(2, "ways", 0);
      x.takes("block", 0, 65);
      x.gives(14, "ways", 0);
      x.takes("projective", 0, 2);
      x.gives(168, "ways", 0);
    });
    Edge.test("27 ways: a point stands for another one, but those behind it find no place", x -> {
      // A row of four points and a ring of three: each end of the row has one neighbour, all others have two.
      x.design(0, 7, 3, 6, 12, 48, 96, 80);
      x.gives(12, "ways", 0);
    });
    Edge.test("27 ways: all points in each block", x -> {
      x.design(0, 7, 127, 127);
      x.gives(5040, "ways", 0);
    });
    Edge.test("27 ways: its blocks, as often as each is there, stay", x -> {
      x.design(0, 2, 1, 2);
      x.gives(2, "ways", 0);
      x.takes("block", 0, 1);
      x.gives(1, "ways", 0);
      x.takes("block", 0, 2);
      x.gives(2, "ways", 0);
    });
    Edge.test("27 ways: 160 blocks", x -> {
      singles(x, 80, 80);
      x.gives(2, "ways", 0);
      singles(x, 80, 79, 1);
      x.gives(1, "ways", 0);
    });
    Edge.test("27 ways: what is documented first is thrown", x -> {
      x.takes("blank", 0, 8);
      x.refuses(I, "ways", 6);
      x.refuses(N, "ways", 1);
    });
  }

  public static void main(String[] args) {
    rest();
    dual();
    part();
    covers();
    coverSize();
    coverAt();
    isParted();
    ways();
    Check.end();
  }
}
