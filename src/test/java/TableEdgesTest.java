/** Promises 28 to 37: the boundary cases of tables. */
final class TableEdgesTest {
  private static final String I = "IndexOutOfBoundsException";
  private static final String N = "NoSuchElementException";
  private static final String A = "IllegalArgumentException";
  private static final String U = "UnsupportedOperationException";

  private TableEdgesTest() {
  }

  /** The slots 0 and 5 hold squares of the order 3. */
  private static void atBothEnds(Edge x) {
    x.takes("shifts", 0, 3, 1, 1);
    x.takes("shifts", 5, 3, 1, 1);
  }

  private static void shifts() {
    Edge.test("28 shifts: the slot, 0 to 5", x -> x.slots(0, 6, "shifts", 0, 3, 1, 1));
    Edge.test("28 shifts: the order, 2 to 9", x -> x.between(A, 1, 2, 9, "shifts", 0, 0, 1, 1));
    Edge.test("28 shifts: an order of 0 or less", x -> {
      x.refuses(A, "shifts", 0, 0, 0, 0);
      x.refuses(A, "shifts", 0, -3, 0, 0);
      x.refuses(A, "shifts", 0, 1, 0, 0);
    });
    Edge.test("28 shifts: a, 0 to the order less 1", x -> {
      x.between(A, 2, 0, 1, "shifts", 0, 2, 0, 1);
      x.between(A, 2, 0, 8, "shifts", 0, 9, 0, 1);
    });
    Edge.test("28 shifts: b, 0 to the order less 1", x -> {
      x.between(A, 3, 0, 1, "shifts", 0, 2, 1, 0);
      x.between(A, 3, 0, 8, "shifts", 0, 9, 1, 0);
    });
    Edge.test("28 shifts: by 0 and 0 one sign alone", x -> {
      x.gives(1, "shifts", 0, 2, 0, 0);
      x.tableIs(0, new int[] {0, 0}, new int[] {0, 0});
      x.gives(1, "shifts", 0, 9, 0, 0);
    });
    Edge.test("28 shifts: by 0 and 1, and by 1 and 0", x -> {
      x.gives(2, "shifts", 0, 2, 0, 1);
      x.tableIs(0, new int[] {0, 1}, new int[] {0, 1});
      x.gives(2, "shifts", 0, 2, 1, 0);
      x.tableIs(0, new int[] {0, 0}, new int[] {1, 1});
    });
    Edge.test("28 shifts: how many unlike signs, where both numbers and the order have a divisor", x -> {
      x.gives(4, "shifts", 0, 8, 2, 4);
      x.gives(3, "shifts", 0, 9, 3, 6);
      x.gives(6, "shifts", 0, 6, 2, 3);
    });
    Edge.test("28 shifts: modulo the order, at the greatest numbers", x -> {
      x.gives(9, "shifts", 0, 9, 8, 8);
      // 8 times 8, twice, is 128, which is 2 modulo 9; 8 and 64 are 0.
      x.gives(2, "cell", 0, 8, 8);
      x.gives(0, "cell", 0, 1, 8);
      x.gives(8, "cell", 0, 1, 0);
    });
    Edge.test("28 shifts: a lesser table where a greater one was", x -> {
      x.takes("shifts", 0, 9, 8, 8);
      x.gives(2, "shifts", 0, 2, 1, 1);
      x.refuses(N, "cell", 0, 2, 0);
      x.refuses(N, "cell", 0, 0, 2);
    });
    Edge.test("28 shifts: no such slot ahead of a number out of range", x -> {
      x.refuses(I, "shifts", 6, 1, 0, 0);
      x.refuses(I, "shifts", -1, 3, 3, 3);
    });
  }

  private static void field() {
    Edge.test("29 field: the slot, 0 to 5", x -> x.slots(0, 6, "field", 0, 3, 1));
    Edge.test("29 field: the order, 2 to 9", x -> x.between(A, 1, 2, 9, "field", 0, 0, 1));
    Edge.test("29 field: the orders 2, 3, 4, 5, 7, 8 and 9", x -> {
      for (int order : new int[] {2, 3, 4, 5, 7, 8, 9}) {
        x.gives(order, "field", 0, order, order - 1);
        x.gives(order, "order", 0);
        x.gives(true, "isSquare", 0);
      }
    });
    Edge.test("29 field: no field of 6, of 1, of 0, nor of more than 9", x -> {
      for (int order : new int[] {6, 1, 0, -2, 10, 11, 13, 16}) {
        x.refuses(A, "field", 0, order, 0);
      }
    });
    Edge.test("29 field: the number, 0 to the order less 1", x -> {
      for (int order : new int[] {2, 3, 4, 5, 7, 8, 9}) {
        x.between(A, 2, 0, order - 1, "field", 0, order, 0);
      }
    });
    Edge.test("29 field: by 0 all rows are alike", x -> {
      x.gives(9, "field", 0, 9, 0);
      x.gives(false, "isSquare", 0);
      x.gives(0, "cell", 0, 8, 0);
      x.gives(8, "cell", 0, 8, 8);
    });
    fieldsAtTheirEnds();
    Edge.test("29 field: no such slot ahead of a number out of range", x -> {
      x.refuses(I, "field", 6, 6, 0);
      x.refuses(I, "field", -1, 3, 3);
    });
  }

  private static void fieldsAtTheirEnds() {
    Edge.test("29 field: modulo the prime 2, and 7", x -> {
      x.takes("field", 0, 2, 1);
      x.tableIs(0, new int[] {0, 1}, new int[] {1, 0});
      x.takes("field", 0, 7, 6);
      x.gives(0, "cell", 0, 6, 6);
      x.gives(1, "cell", 0, 6, 0);
    });
    Edge.test("29 field: the greatest numbers of 4", x -> {
      x.takes("field", 0, 4, 3);
      // (z + 1) (z + 1) is z z + 1, which is z; without carry, z and z + 1 are 1.
      x.gives(2, "cell", 0, 3, 0);
      x.gives(1, "cell", 0, 3, 3);
    });
    Edge.test("29 field: the greatest numbers of 8", x -> {
      x.takes("field", 0, 8, 7);
      // z z + z + 1 by itself is z z z z + z z + 1, and z z z z is z z + z: that is z + 1.
      x.gives(3, "cell", 0, 7, 0);
      x.gives(4, "cell", 0, 7, 7);
    });
    Edge.test("29 field: 1 times each number, and each times 1, is this", x -> {
      for (int order : new int[] {4, 8, 9}) {
        for (int by = 1; by < order; by++) {
          x.takes("field", 0, order, by);
          x.gives(by, "cell", 0, 1, 0);
        }
        x.takes("field", 0, order, 1);
        for (int row = 0; row < order; row++) {
          x.gives(row, "cell", 0, row, 0);
        }
      }
    });
    Edge.test("29 field: z z of 4, z z z of 8 and z z of 9", x -> {
      x.takes("field", 0, 4, 2);
      x.gives(3, "cell", 0, 2, 0);
      x.takes("field", 0, 8, 4);
      x.gives(3, "cell", 0, 2, 0);
      x.takes("field", 0, 9, 3);
      x.gives(2, "cell", 0, 3, 0);
      // z times 2 z, and z times 2 z + 1.
      x.takes("field", 0, 9, 6);
      x.gives(1, "cell", 0, 3, 0);
      x.takes("field", 0, 9, 7);
      x.gives(4, "cell", 0, 3, 0);
    });
    Edge.test("29 field: the greatest numbers of 9", x -> {
      x.takes("field", 0, 9, 8);
      // 2 z + 2 by itself is 4 z z + 8 z + 4, which is 2 z, for z z is 2; with 2 z + 2 it is z + 2.
      x.gives(6, "cell", 0, 8, 0);
      x.gives(5, "cell", 0, 8, 8);
    });
  }

  private static void setCell() {
    Edge.test("30 setCell: the slot, 0 to 5", x -> {
      atBothEnds(x);
      x.slots(0, 6, "setCell", 0, 1, 1, 0);
    });
    Edge.test("30 setCell: a slot that holds no table", x -> x.empty(0, 6, "setCell", 0, 0, 0, 0));
    Edge.test("30 setCell: the row, from 0 to the last one", x -> {
      x.takes("shifts", 0, 3, 1, 1);
      x.between(N, 1, 0, 2, "setCell", 0, 0, 1, 2);
      x.takes("shifts", 0, 9, 1, 1);
      x.between(N, 1, 0, 8, "setCell", 0, 0, 1, 2);
    });
    Edge.test("30 setCell: the column, from 0 to the last one", x -> {
      x.takes("shifts", 0, 3, 1, 1);
      x.between(N, 2, 0, 2, "setCell", 0, 1, 0, 2);
      x.takes("shifts", 0, 9, 1, 1);
      x.between(N, 2, 0, 8, "setCell", 0, 1, 0, 2);
    });
    Edge.test("30 setCell: the sign, 0 to the order less 1", x -> {
      x.takes("shifts", 0, 2, 1, 1);
      x.between(A, 3, 0, 1, "setCell", 0, 1, 1, 0);
      x.takes("shifts", 0, 9, 1, 1);
      x.between(A, 3, 0, 8, "setCell", 0, 8, 8, 0);
    });
    Edge.test("30 setCell: at the first place, and at the last one", x -> {
      x.takes("shifts", 0, 9, 1, 1);
      x.gives(0, "setCell", 0, 0, 0, 8);
      x.gives(8, "setCell", 0, 0, 0, 8);
      x.gives(7, "setCell", 0, 8, 8, 0);
      x.gives(0, "setCell", 0, 8, 8, 1);
      x.gives(8, "cell", 0, 0, 0);
      x.gives(1, "cell", 0, 8, 8);
      x.gives(1, "cell", 0, 0, 1);
      x.gives(6, "cell", 0, 8, 7);
    });
    Edge.test("30 setCell: what is documented first is thrown", x -> {
      x.takes("shifts", 0, 3, 1, 1);
      x.refuses(I, "setCell", 6, 3, 3, 3);
      x.refuses(I, "setCell", -1, 0, 0, -1);
      x.refuses(N, "setCell", 1, 0, 0, -1);
      x.refuses(N, "setCell", 0, 3, 0, 3);
      x.refuses(N, "setCell", 0, 0, -1, -1);
    });
  }

  private static void orderAndCell() {
    Edge.test("31 order: the slot, 0 to 5", x -> {
      atBothEnds(x);
      x.slots(0, 6, "order", 0);
    });
    Edge.test("31 order: a slot that holds no table", x -> x.empty(0, 6, "order", 0));
    Edge.test("31 order: of 2, and of 9", x -> {
      x.takes("shifts", 0, 2, 0, 0);
      x.takes("field", 5, 9, 0);
      x.gives(2, "order", 0);
      x.gives(9, "order", 5);
    });
    Edge.test("31 order: a slot of designs, or of rows, holds no table", x -> {
      x.takes("blank", 0, 3);
      x.takes("doubled", 0, 2);
      x.refuses(N, "order", 0);
    });
    Edge.test("32 cell: the slot, 0 to 5", x -> {
      atBothEnds(x);
      x.slots(0, 6, "cell", 0, 1, 1);
    });
    Edge.test("32 cell: a slot that holds no table", x -> x.empty(0, 6, "cell", 0, 0, 0));
    Edge.test("32 cell: the row, from 0 to the last one", x -> {
      x.takes("shifts", 0, 2, 1, 0);
      x.between(N, 1, 0, 1, "cell", 0, 0, 1);
      x.takes("shifts", 0, 9, 1, 0);
      x.between(N, 1, 0, 8, "cell", 0, 0, 1);
      x.gives(8, "cell", 0, 8, 0);
    });
    Edge.test("32 cell: the column, from 0 to the last one", x -> {
      x.takes("shifts", 0, 2, 0, 1);
      x.between(N, 2, 0, 1, "cell", 0, 1, 0);
      x.takes("shifts", 0, 9, 0, 1);
      x.between(N, 2, 0, 8, "cell", 0, 1, 0);
      x.gives(8, "cell", 0, 0, 8);
    });
    Edge.test("32 cell: a column behind the last one is no place of the next row", x -> {
      x.takes("shifts", 0, 3, 1, 1);
      x.refuses(N, "cell", 0, 0, 3);
      x.refuses(N, "cell", 0, 1, -1);
    });
    Edge.test("32 cell: no such slot ahead of no such place", x -> {
      x.refuses(I, "cell", 6, -1, 0);
      x.refuses(I, "cell", -1, 0, 9);
    });
  }

  private static void square(boolean want, String sentence, int[]... signs) {
    Edge.test("33 isSquare: " + sentence, x -> {
      x.table(0, signs);
      x.gives(want, "isSquare", 0);
    });
  }

  private static void isSquare() {
    Edge.test("33 isSquare: the slot, 0 to 5", x -> {
      atBothEnds(x);
      x.slots(0, 6, "isSquare", 0);
    });
    Edge.test("33 isSquare: a slot that holds no table", x -> x.empty(0, 6, "isSquare", 0));
    square(true, "the least order", new int[] {1, 0}, new int[] {0, 1});
    square(false, "one sign alone", new int[] {0, 0}, new int[] {0, 0});
    square(false, "each sign once in each column, not in each row", new int[] {0, 0}, new int[] {1, 1});
    square(false, "each sign once in each row, not in each column", new int[] {0, 1}, new int[] {0, 1});
    square(false, "the last row is wrong", new int[] {0, 1, 2}, new int[] {1, 2, 0}, new int[] {2, 0, 0});
    square(false, "the first place alone is wrong", new int[] {1, 1, 2}, new int[] {1, 2, 0}, new int[] {2, 0, 1});
    square(false, "the last place alone is wrong", new int[] {0, 1, 2}, new int[] {1, 2, 0}, new int[] {2, 0, 2});
    square(false, "the first row is wrong", new int[] {0, 0, 2}, new int[] {1, 2, 0}, new int[] {2, 0, 1});
    Edge.test("33 isSquare: the greatest order", x -> {
      x.takes("shifts", 0, 9, 1, 8);
      x.gives(true, "isSquare", 0);
      x.takes("setCell", 0, 8, 8, 1);
      x.gives(false, "isSquare", 0);
      x.gives(1, "setCell", 0, 8, 8, 0);
      x.gives(true, "isSquare", 0);
    });
  }

  private static void turn() {
    Edge.test("34 turn: the slot, 0 to 5", x -> {
      atBothEnds(x);
      x.slots(0, 6, "turn", 0, false, 1);
      x.slots(0, 6, "turn", 0, true, 1);
    });
    Edge.test("34 turn: the slot that becomes it, 0 to 5", x -> {
      x.takes("shifts", 1, 3, 1, 1);
      x.slots(2, 6, "turn", 1, false, 0);
      x.slots(2, 6, "turn", 1, true, 0);
    });
    Edge.test("34 turn: a slot that holds no table", x -> {
      x.empty(0, 6, "turn", 0, false, 1);
      x.empty(0, 6, "turn", 0, true, 1);
    });
    Edge.test("34 turn: by signs, no square", x -> {
      x.table(0, new int[] {0, 1}, new int[] {0, 1});
      x.table(1, new int[] {0, 0}, new int[] {1, 1});
      x.refuses(U, "turn", 0, true, 2);
      x.refuses(U, "turn", 1, true, 2);
    });
    Edge.test("34 turn: not by signs, no square", x -> {
      x.table(0, new int[] {1, 0}, new int[] {1, 1});
      x.gives(1, "turn", 0, false, 0);
      x.tableIs(0, new int[] {1, 1}, new int[] {0, 1});
    });
    Edge.test("34 turn: the greatest order, into itself", x -> {
      x.takes("shifts", 0, 9, 2, 1);
      x.gives(0, "turn", 0, false, 0);
      x.gives(1, "cell", 0, 1, 0);
      x.gives(8, "cell", 0, 8, 0);
      x.gives(7, "cell", 0, 0, 8);
      // By signs: at the row r and the column s stands c, with r + 2 c being s; for 8 and 0 that is 5.
      x.gives(0, "turn", 0, true, 0);
      x.gives(5, "cell", 0, 8, 0);
      x.gives(4, "cell", 0, 0, 8);
    });
    Edge.test("34 turn: a lesser table where a greater one was", x -> {
      x.takes("shifts", 0, 9, 2, 1);
      x.takes("shifts", 1, 2, 1, 1);
      x.gives(0, "turn", 1, true, 0);
      x.tableIs(0, new int[] {0, 1}, new int[] {1, 0});
    });
    Edge.test("34 turn: what is documented first is thrown", x -> {
      x.takes("shifts", 0, 3, 0, 0);
      x.refuses(I, "turn", 6, true, 0);
      x.refuses(I, "turn", 1, true, 6);
      x.refuses(I, "turn", 0, true, -1);
      x.refuses(N, "turn", 1, true, 0);
    });
  }

  private static void areApart() {
    Edge.test("35 areApart: the slot, 0 to 5", x -> {
      atBothEnds(x);
      x.slots(0, 6, "areApart", 0, 0);
    });
    Edge.test("35 areApart: the other one, 0 to 5", x -> {
      atBothEnds(x);
      x.slots(1, 6, "areApart", 0, 0);
    });
    Edge.test("35 areApart: one holds no table", x -> {
      x.takes("shifts", 0, 3, 1, 1);
      x.refuses(N, "areApart", 0, 1);
      x.refuses(N, "areApart", 1, 0);
      x.refuses(N, "areApart", 1, 1);
    });
    Edge.test("35 areApart: one is no square", x -> {
      x.takes("shifts", 0, 3, 1, 1);
      x.takes("shifts", 1, 3, 0, 1);
      x.takes("shifts", 2, 3, 1, 0);
      for (int slot = 1; slot < 3; slot++) {
        x.refuses(U, "areApart", 0, slot);
        x.refuses(U, "areApart", slot, 0);
        x.refuses(U, "areApart", slot, slot);
      }
    });
    Edge.test("35 areApart: their orders differ", x -> {
      x.takes("shifts", 0, 2, 1, 1);
      x.takes("shifts", 1, 3, 1, 1);
      x.takes("shifts", 2, 9, 1, 1);
      x.refuses(U, "areApart", 0, 1);
      x.refuses(U, "areApart", 1, 0);
      x.refuses(U, "areApart", 2, 1);
      x.refuses(U, "areApart", 1, 2);
    });
    Edge.test("35 areApart: a square is not apart from itself", x -> {
      x.takes("shifts", 0, 2, 1, 1);
      x.takes("shifts", 1, 9, 1, 1);
      x.gives(false, "areApart", 0, 0);
      x.gives(false, "areApart", 1, 1);
    });
    Edge.test("35 areApart: of the order 2 none are apart", x -> {
      x.takes("shifts", 0, 2, 1, 1);
      x.table(1, new int[] {1, 0}, new int[] {0, 1});
      x.gives(false, "areApart", 0, 1);
    });
    Edge.test("35 areApart: the greatest order", x -> {
      x.takes("field", 0, 9, 1);
      x.takes("field", 1, 9, 8);
      x.takes("shifts", 2, 9, 1, 1);
      x.gives(true, "areApart", 0, 1);
      x.gives(false, "areApart", 2, 2);
    });
    Edge.test("35 areApart: what is documented first is thrown", x -> {
      x.takes("shifts", 0, 3, 0, 0);
      x.refuses(I, "areApart", 6, 1);
      x.refuses(I, "areApart", 1, 6);
      x.refuses(I, "areApart", 0, -1);
      x.refuses(N, "areApart", 0, 1);
      x.refuses(N, "areApart", 1, 0);
    });
  }

  private static void transversals() {
    Edge.test("36 transversals: the slot, 0 to 5", x -> {
      atBothEnds(x);
      x.slots(0, 6, "transversals", 0);
    });
    Edge.test("36 transversals: a slot that holds no table", x -> x.empty(0, 6, "transversals", 0));
    Edge.test("36 transversals: no square", x -> {
      x.table(0, new int[] {0, 1}, new int[] {0, 1});
      x.table(1, new int[] {0, 0}, new int[] {1, 1});
      x.refuses(U, "transversals", 0);
      x.refuses(U, "transversals", 1);
    });
    Edge.test("36 transversals: the order 7, and above", x -> {
      x.takes("shifts", 0, 7, 1, 1);
      x.gives(133, "transversals", 0);
      x.takes("shifts", 0, 8, 1, 1);
      x.refuses(U, "transversals", 0);
      x.takes("field", 0, 9, 1);
      x.refuses(U, "transversals", 0);
    });
    Edge.test("36 transversals: the least order has none", x -> {
      x.takes("shifts", 0, 2, 1, 1);
      x.gives(0, "transversals", 0);
    });
    Edge.test("36 transversals: the orders between", x -> {
      int[] want = {3, 0, 15, 0};
      for (int order = 3; order < 7; order++) {
        x.takes("shifts", 0, order, 1, 1);
        x.gives(want[order - 3], "transversals", 0);
      }
      x.takes("field", 0, 4, 1);
      x.gives(8, "transversals", 0);
    });
    Edge.test("36 transversals: what is documented first is thrown", x -> {
      x.takes("shifts", 0, 8, 0, 0);
      x.refuses(I, "transversals", 6);
      x.refuses(N, "transversals", 1);
      x.refuses(U, "transversals", 0);
    });
  }

  private static void planeOf() {
    Edge.test("37 planeOf: the slots of the squares, bits 0 to 5", x -> {
      x.takes("shifts", 0, 2, 1, 1);
      x.takes("shifts", 5, 2, 1, 1);
      for (int set : new int[] {64, 65, 128, 1 << 30, Integer.MIN_VALUE, Integer.MIN_VALUE + 1, -1, -2}) {
        x.refuses(I, "planeOf", set, 0);
      }
      x.gives(6, "planeOf", 1, 0);
      x.gives(6, "planeOf", 32, 5);
    });
    Edge.test("37 planeOf: the slot that becomes it, 0 to 5", x -> {
      x.takes("shifts", 0, 2, 1, 1);
      x.slots(1, 6, "planeOf", 1, 0);
    });
    Edge.test("37 planeOf: there are none", x -> {
      x.takes("shifts", 0, 2, 1, 1);
      x.refuses(N, "planeOf", 0, 0);
    });
    Edge.test("37 planeOf: one holds no table", x -> {
      x.takes("field", 1, 3, 1);
      x.takes("field", 2, 3, 2);
      x.refuses(N, "planeOf", 3, 0);
      x.refuses(N, "planeOf", 6 + 8, 0);
      x.refuses(N, "planeOf", 1, 0);
      x.refuses(N, "planeOf", 63, 0);
    });
    Edge.test("37 planeOf: one is no square", x -> {
      x.takes("field", 0, 3, 1);
      x.takes("field", 1, 3, 0);
      x.takes("shifts", 2, 3, 1, 0);
      x.refuses(U, "planeOf", 3, 0);
      x.refuses(U, "planeOf", 5, 0);
      x.takes("shifts", 3, 2, 0, 1);
      x.refuses(U, "planeOf", 8, 0);
      x.takes("shifts", 0, 2, 1, 0);
      x.refuses(U, "planeOf", 1, 0);
    });
    Edge.test("37 planeOf: their orders differ", x -> {
      x.takes("field", 0, 3, 1);
      x.takes("field", 1, 2, 1);
      x.takes("field", 2, 3, 2);
      x.refuses(U, "planeOf", 3, 0);
      x.refuses(U, "planeOf", 6, 0);
      x.refuses(U, "planeOf", 7, 0);
      x.gives(12, "planeOf", 5, 0);
    });
    planeOfSoMany();
    Edge.test("37 planeOf: what is documented first is thrown", x -> {
      x.takes("field", 0, 3, 0);
      x.refuses(I, "planeOf", 0, 6);
      x.refuses(I, "planeOf", 0, -1);
      x.refuses(I, "planeOf", 2, 6);
      x.refuses(I, "planeOf", 64 + 2, 0);
      x.refuses(N, "planeOf", 1 + 2, 0);
    });
  }

  private static void planeOfSoMany() {
    Edge.test("37 planeOf: the order 2, of one square", x -> {
      x.takes("shifts", 3, 2, 1, 1);
      x.gives(6, "planeOf", 8, 0);
      x.blocksAre(0, 9, 6, 3, 12, 5, 10);
    });
    Edge.test("37 planeOf: the order 5, of four squares", x -> {
      for (int by = 1; by < 5; by++) {
        x.takes("field", by, 5, by);
      }
      x.gives(30, "planeOf", 30, 0);
      x.gives(25, "points", 0);
      x.gives(31, "bitsOf", 0, 20);
      x.gives(31 << 20, "bitsOf", 0, 24);
      x.gives(1 << 4 | 1 << 9 | 1 << 14 | 1 << 19 | 1 << 24, "bitsOf", 0, 29);
      x.gives(true, "isEven", 0);
    });
    Edge.test("37 planeOf: the order 7, of six squares that are apart, is above 5", x -> {
      for (int by = 1; by < 7; by++) {
        x.takes("field", by - 1, 7, by);
      }
      x.gives(true, "areApart", 0, 5);
      x.refuses(U, "planeOf", 63, 0);
      x.refuses(U, "planeOf", 31, 0);
    });
    Edge.test("37 planeOf: fewer squares than 1 less than the order", x -> {
      x.takes("field", 0, 4, 1);
      x.takes("field", 1, 4, 2);
      x.takes("field", 2, 4, 3);
      x.refuses(U, "planeOf", 1, 0);
      x.refuses(U, "planeOf", 3, 0);
      x.refuses(U, "planeOf", 6, 0);
      x.gives(20, "planeOf", 7, 0);
    });
    Edge.test("37 planeOf: more squares than 1 less than the order", x -> {
      x.takes("field", 0, 2, 1);
      x.takes("field", 1, 2, 1);
      x.refuses(U, "planeOf", 3, 0);
      x.gives(6, "planeOf", 2, 0);
    });
    Edge.test("37 planeOf: two are not apart", x -> {
      x.takes("field", 0, 4, 1);
      x.takes("field", 1, 4, 2);
      x.takes("field", 2, 4, 2);
      x.takes("field", 3, 4, 1);
      x.refuses(U, "planeOf", 7, 0);
      x.refuses(U, "planeOf", 11, 0);
      x.refuses(U, "planeOf", 13, 0);
    });
  }

  public static void main(String[] args) {
    shifts();
    field();
    setCell();
    orderAndCell();
    isSquare();
    turn();
    areApart();
    transversals();
    planeOf();
    Check.end();
  }
}
