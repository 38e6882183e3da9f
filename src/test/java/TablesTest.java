/** Promises 28 to 48: tables, rows of signs, days and settings. */
final class TablesTest {
  private static final String I = "IndexOutOfBoundsException";
  private static final String N = "NoSuchElementException";
  private static final String A = "IllegalArgumentException";
  private static final String U = "UnsupportedOperationException";

  private TablesTest() {
  }

  private static void tableIs(DesignsOffice x, int slot, int[]... want) {
    Check.due("order(" + slot + ")", want.length, () -> x.order(slot));
    for (int i = 0; i < want.length; i++) {
      for (int k = 0; k < want.length; k++) {
        int row = i;
        int column = k;
        Check.due("cell(" + slot + ", " + i + ", " + k + ")", want[i][k], () -> x.cell(slot, row, column));
      }
    }
  }

  private static void nothingHasChanged(DesignsOffice x, long sum, int kept) {
    Check.due("checksum() after what threw", sum, x::checksum);
    Object want = kept == 0 ? N : (Object) (kept - 1);
    Check.due("undo() after what threw", want, x::undo);
  }

  private static void slotsAreLookedAt(String name, int slots, java.util.function.IntFunction<Object> call,
      Object atNone) {
    Check.due(name + " at -1", I, () -> call.apply(-1));
    Check.due(name + " at " + slots, I, () -> call.apply(slots));
    Check.due(name + " at " + Integer.MAX_VALUE, I, () -> call.apply(Integer.MAX_VALUE));
    for (int i = 0; i < slots; i++) {
      int slot = i;
      Check.due(name + " at " + i, atNone, () -> call.apply(slot));
    }
  }

  /** An office whose slot 0 holds a table. */
  private static DesignsOffice with(int[]... signs) {
    DesignsOffice x = new DesignsOffice();
    x.shifts(0, signs.length, 0, 0);
    for (int row = 0; row < signs.length; row++) {
      for (int column = 0; column < signs.length; column++) {
        x.setCell(0, row, column, signs[row][column]);
      }
    }
    return x;
  }

  private static void shifts() {
    DesignsOffice x = new DesignsOffice();
    Check.due("shifts(0, 3, 1, 2)", 3, () -> x.shifts(0, 3, 1, 2));
    tableIs(x, 0, new int[] {0, 2, 1}, new int[] {1, 0, 2}, new int[] {2, 1, 0});
    Check.due("shifts(0, 4, 2, 2)", 2, () -> x.shifts(0, 4, 2, 2));
    tableIs(x, 0, new int[] {0, 2, 0, 2}, new int[] {2, 0, 2, 0}, new int[] {0, 2, 0, 2}, new int[] {2, 0, 2, 0});
    Check.due("shifts(5, 9, 0, 0)", 1, () -> x.shifts(5, 9, 0, 0));
    Check.due("shifts(5, 9, 8, 8)", 9, () -> x.shifts(5, 9, 8, 8));
    Check.due("cell(5, 8, 8)", 2, () -> x.cell(5, 8, 8));
    Check.due("shifts(5, 2, 0, 1)", 2, () -> x.shifts(5, 2, 0, 1));
    tableIs(x, 5, new int[] {0, 1}, new int[] {0, 1});
    long sum = x.checksum();
    Check.due("shifts(6, 1, 0, 0)", I, () -> x.shifts(6, 1, 0, 0));
    Check.due("shifts(-1, 2, 0, 0)", I, () -> x.shifts(-1, 2, 0, 0));
    Check.due("shifts(0, 1, 0, 0)", A, () -> x.shifts(0, 1, 0, 0));
    Check.due("shifts(0, 10, 0, 0)", A, () -> x.shifts(0, 10, 0, 0));
    Check.due("shifts(0, 3, 3, 0)", A, () -> x.shifts(0, 3, 3, 0));
    Check.due("shifts(0, 3, -1, 0)", A, () -> x.shifts(0, 3, -1, 0));
    Check.due("shifts(0, 3, 0, 3)", A, () -> x.shifts(0, 3, 0, 3));
    Check.due("shifts(0, 3, 0, -1)", A, () -> x.shifts(0, 3, 0, -1));
    nothingHasChanged(x, sum, 5);
  }

  private static void field() {
    DesignsOffice x = new DesignsOffice();
    Check.due("field(0, 4, 2)", 4, () -> x.field(0, 4, 2));
    tableIs(x, 0, new int[] {0, 1, 2, 3}, new int[] {2, 3, 0, 1}, new int[] {3, 2, 1, 0}, new int[] {1, 0, 3, 2});
    Check.due("field(0, 5, 3)", 5, () -> x.field(0, 5, 3));
    Check.due("cell(0, 4, 4)", 1, () -> x.cell(0, 4, 4));
    // z times 0 to 7, where z z z = z + 1; z times 0 to 8, where z z = 2.
    int[] timesZ8 = {0, 2, 4, 6, 3, 1, 7, 5};
    int[] timesZ9 = {0, 3, 6, 2, 5, 8, 1, 4, 7};
    Check.due("field(1, 8, 2)", 8, () -> x.field(1, 8, 2));
    Check.due("field(2, 9, 3)", 9, () -> x.field(2, 9, 3));
    for (int i = 0; i < 9; i++) {
      int row = i;
      Check.due("cell(1, " + i + ", 0)", i < 8 ? (Object) timesZ8[i & 7] : N, () -> x.cell(1, row, 0));
      Check.due("cell(2, " + i + ", 0)", timesZ9[i], () -> x.cell(2, row, 0));
    }
    Check.due("cell(1, 1, 7)", 5, () -> x.cell(1, 1, 7));
    Check.due("cell(2, 1, 8)", 2, () -> x.cell(2, 1, 8));
    Check.due("field(2, 9, 0)", 9, () -> x.field(2, 9, 0));
    Check.due("isSquare(2)", false, () -> x.isSquare(2));
    Check.due("field(2, 2, 1)", 2, () -> x.field(2, 2, 1));
    long sum = x.checksum();
    Check.due("field(6, 6, 0)", I, () -> x.field(6, 6, 0));
    for (int order : new int[] {Integer.MIN_VALUE, -2, 0, 1, 6, 10, 16}) {
      Check.due("field(0, " + order + ", 0)", A, () -> x.field(0, order, 0));
    }
    Check.due("field(0, 4, 4)", A, () -> x.field(0, 4, 4));
    Check.due("field(0, 4, -1)", A, () -> x.field(0, 4, -1));
    nothingHasChanged(x, sum, 6);
  }

  /** In a field, all that a number but 0 is multiplied by becomes unlike, and so do all differences. */
  private static void fieldIsOne() {
    DesignsOffice x = new DesignsOffice();
    PlainOffice plain = new PlainOffice();
    for (int order : new int[] {2, 3, 4, 5, 7, 8, 9}) {
      for (int by = 0; by < order; by++) {
        plain.field(by % 6, order, by);
        x.field(by % 6, order, by);
        for (int i = 0; i < order * order; i++) {
          Check.same("cell " + i + " of field(" + order + ", " + by + ")", plain.cell(by % 6, i / order, i % order),
              x.cell(by % 6, i / order, i % order));
        }
        Check.same("isSquare of field(" + order + ", " + by + ")", by != 0, x.isSquare(by % 6));
        for (int other = Math.max(1, by - 5); other < by; other++) {
          Check.same("areApart, " + order + " by " + by + " and " + other, true, x.areApart(by % 6, other % 6));
        }
      }
    }
  }

  private static void setCell() {
    DesignsOffice x = new DesignsOffice();
    slotsAreLookedAt("setCell(, 0, 0, 0)", 6, slot -> x.setCell(slot, 0, 0, 0), N);
    x.shifts(0, 3, 1, 1);
    Check.due("setCell(0, 1, 2, 1)", 0, () -> x.setCell(0, 1, 2, 1));
    Check.due("setCell(0, 1, 2, 1) again", 1, () -> x.setCell(0, 1, 2, 1));
    tableIs(x, 0, new int[] {0, 1, 2}, new int[] {1, 2, 1}, new int[] {2, 0, 1});
    long sum = x.checksum();
    Check.due("setCell(6, 3, 0, 3)", I, () -> x.setCell(6, 3, 0, 3));
    Check.due("setCell(0, 3, 0, 3)", N, () -> x.setCell(0, 3, 0, 3));
    Check.due("setCell(0, 0, 3, 3)", N, () -> x.setCell(0, 0, 3, 3));
    Check.due("setCell(0, -1, 0, 0)", N, () -> x.setCell(0, -1, 0, 0));
    Check.due("setCell(0, 0, -1, 0)", N, () -> x.setCell(0, 0, -1, 0));
    Check.due("setCell(0, 0, 0, 3)", A, () -> x.setCell(0, 0, 0, 3));
    Check.due("setCell(0, 0, 0, -1)", A, () -> x.setCell(0, 0, 0, -1));
    nothingHasChanged(x, sum, 3);
    Check.due("undo()", 1, x::undo);
    Check.due("cell(0, 1, 2)", 0, () -> x.cell(0, 1, 2));
  }

  private static void order() {
    DesignsOffice x = new DesignsOffice();
    slotsAreLookedAt("order", 6, slot -> x.order(slot), N);
    x.shifts(3, 9, 1, 1);
    Check.due("order(3)", 9, () -> x.order(3));
  }

  private static void cell() {
    DesignsOffice x = new DesignsOffice();
    slotsAreLookedAt("cell(, 0, 0)", 6, slot -> x.cell(slot, 0, 0), N);
    x.shifts(0, 4, 2, 1);
    Check.due("cell(0, 1, 0)", 2, () -> x.cell(0, 1, 0));
    Check.due("cell(0, 0, 1)", 1, () -> x.cell(0, 0, 1));
    Check.due("cell(0, 3, 3)", 1, () -> x.cell(0, 3, 3));
    Check.due("cell(0, 4, 0)", N, () -> x.cell(0, 4, 0));
    Check.due("cell(0, 0, 4)", N, () -> x.cell(0, 0, 4));
    Check.due("cell(0, -1, 0)", N, () -> x.cell(0, -1, 0));
    Check.due("cell(0, 0, -1)", N, () -> x.cell(0, 0, -1));
    Check.due("cell(6, 0, -1)", I, () -> x.cell(6, 0, -1));
  }

  private static void isSquare() {
    DesignsOffice x = new DesignsOffice();
    slotsAreLookedAt("isSquare", 6, slot -> x.isSquare(slot), N);
    x.shifts(0, 9, 1, 1);
    Check.due("sums of 9", true, () -> x.isSquare(0));
    x.shifts(0, 9, 1, 3);
    Check.due("columns alone", false, () -> x.isSquare(0));
    x.shifts(0, 9, 3, 1);
    Check.due("rows alone", false, () -> x.isSquare(0));
    Check.due("one sign wrong", false, () -> with(new int[] {0, 1}, new int[] {1, 1}).isSquare(0));
    Check.due("the first sign wrong", false, () -> with(new int[] {1, 1}, new int[] {1, 0}).isSquare(0));
    Check.due("the first of three wrong", false,
        () -> with(new int[] {1, 1, 2}, new int[] {1, 2, 0}, new int[] {2, 0, 1}).isSquare(0));
    Check.due("two signs", true, () -> with(new int[] {1, 0}, new int[] {0, 1}).isSquare(0));
  }

  private static void turn() {
    DesignsOffice x = with(new int[] {1, 2, 0}, new int[] {2, 0, 1}, new int[] {0, 1, 2});
    slotsAreLookedAt("turn(, 1) to 9", 6, slot -> x.turn(slot, true, 9), I);
    Check.due("turn(5, true, 0)", N, () -> x.turn(5, true, 0));
    x.setCell(0, 0, 0, 1);
    Check.due("turn(0, true, 1)", 2, () -> x.turn(0, true, 1));
    tableIs(x, 1, new int[] {2, 0, 1}, new int[] {1, 2, 0}, new int[] {0, 1, 2});
    x.shifts(2, 3, 2, 0);
    Check.due("turn(2, false, 2)", 0, () -> x.turn(2, false, 2));
    tableIs(x, 2, new int[] {0, 2, 1}, new int[] {0, 2, 1}, new int[] {0, 2, 1});
    Check.due("turn(1, true, 1)", 1, () -> x.turn(1, true, 1));
    tableIs(x, 1, new int[] {1, 2, 0}, new int[] {2, 0, 1}, new int[] {0, 1, 2});
    long sum = x.checksum();
    Check.due("turn(2, true, 6)", I, () -> x.turn(2, true, 6));
    Check.due("turn(2, true, -1)", I, () -> x.turn(2, true, -1));
    Check.due("turn(2, true, 0)", U, () -> x.turn(2, true, 0));
    nothingHasChanged(x, sum, 8);
    Check.due("turn(2, false, 0) of no square", 0, () -> x.turn(2, false, 0));
  }

  private static void areApart() {
    DesignsOffice x = new DesignsOffice();
    slotsAreLookedAt("areApart(, 0)", 6, slot -> x.areApart(slot, 0), N);
    x.shifts(0, 5, 1, 1);
    x.shifts(1, 5, 2, 1);
    x.shifts(2, 5, 2, 2);
    x.shifts(3, 4, 1, 1);
    x.shifts(4, 5, 0, 1);
    Check.due("areApart(0, 1)", true, () -> x.areApart(0, 1));
    Check.due("areApart(1, 0)", true, () -> x.areApart(1, 0));
    Check.due("areApart(0, 2)", false, () -> x.areApart(0, 2));
    Check.due("areApart(0, 0)", false, () -> x.areApart(0, 0));
    Check.due("areApart(3, 0), unlike orders", U, () -> x.areApart(3, 0));
    Check.due("areApart(0, 4), no square", U, () -> x.areApart(0, 4));
    Check.due("areApart(4, 0), no square", U, () -> x.areApart(4, 0));
    Check.due("areApart(4, 5)", N, () -> x.areApart(4, 5));
    Check.due("areApart(5, 4)", N, () -> x.areApart(5, 4));
    Check.due("areApart(5, 6)", I, () -> x.areApart(5, 6));
    Check.due("areApart(6, 5)", I, () -> x.areApart(6, 5));
  }

  private static void transversals() {
    DesignsOffice x = new DesignsOffice();
    slotsAreLookedAt("transversals", 6, slot -> x.transversals(slot), N);
    // What is known of the tables of sums.
    int[] want = {0, 0, 0, 3, 0, 15, 0, 133};
    for (int i = 2; i < 8; i++) {
      int order = i;
      x.shifts(0, order, 1, 1);
      Check.due("transversals of order " + order, want[order], () -> x.transversals(0));
    }
    x.field(0, 4, 2);
    Check.due("transversals of field(4, 2)", 8, () -> x.transversals(0));
    x.field(0, 4, 0);
    Check.due("no square", U, () -> x.transversals(0));
    x.field(0, 8, 1);
    Check.due("order 8", U, () -> x.transversals(0));
  }

  private static void planeOf() {
    DesignsOffice x = new DesignsOffice();
    x.shifts(1, 2, 1, 1);
    Check.due("planeOf(2, 0)", 6, () -> x.planeOf(2, 0));
    int[] want = {9, 6, 3, 12, 5, 10};
    for (int i = 0; i < 6; i++) {
      int block = i;
      Check.due("bitsOf(0, " + i + ")", want[i], () -> x.bitsOf(0, block));
    }
    for (int order = 3; order < 6; order++) {
      for (int by = 1; by < order; by++) {
        x.field(6 - by, order, by);
      }
      int set = 64 - (1 << 7 - order);
      int all = order * order + order;
      Check.due("planeOf of order " + order, all, () -> x.planeOf(set, 5));
      Check.due("isEven(5)", true, () -> x.isEven(5));
      Check.due("points(5)", all - x.order(5), () -> x.points(5));
      Check.due("the last column", x.bitsOf(5, all - 2) << 1, () -> x.bitsOf(5, all - 1));
    }
    // The first square by its slot is that by 4, whose 0 is at 0 0, 1 1, 2 2, 3 3, 4 4.
    Check.due("bitsOf(5, 0)", 1 | 1 << 6 | 1 << 12 | 1 << 18 | 1 << 24, () -> x.bitsOf(5, 0));
    planeIsRefused();
  }

  private static void planeIsRefused() {
    DesignsOffice x = new DesignsOffice();
    x.field(0, 3, 1);
    x.field(1, 3, 2);
    x.field(2, 3, 0);
    x.field(3, 2, 1);
    x.field(4, 3, 1);
    long sum = x.checksum();
    Check.due("planeOf(0, 6)", I, () -> x.planeOf(0, 6));
    Check.due("planeOf(0, -1)", I, () -> x.planeOf(0, -1));
    Check.due("planeOf(64, 0)", I, () -> x.planeOf(64, 0));
    Check.due("planeOf(-1, 0)", I, () -> x.planeOf(-1, 0));
    Check.due("planeOf(3 and 64, 0)", I, () -> x.planeOf(67, 0));
    Check.due("planeOf(0, 0)", N, () -> x.planeOf(0, 0));
    Check.due("planeOf(5 of none, 0)", N, () -> x.planeOf(32 + 4, 0));
    Check.due("planeOf(1, 0), too few", U, () -> x.planeOf(1, 0));
    Check.due("planeOf(19, 0), too many", U, () -> x.planeOf(19, 0));
    Check.due("planeOf(5, 0), no square", U, () -> x.planeOf(5, 0));
    Check.due("planeOf(9, 0), unlike orders", U, () -> x.planeOf(9, 0));
    Check.due("planeOf(24, 0), unlike orders", U, () -> x.planeOf(24, 0));
    Check.due("planeOf(17, 0), not apart", U, () -> x.planeOf(17, 0));
    nothingHasChanged(x, sum, 5);
    DesignsOffice y = new DesignsOffice();
    for (int i = 0; i < 6; i++) {
      y.field(i, 7, i + 1);
    }
    Check.due("planeOf of order 7", U, () -> y.planeOf(63, 0));
    Check.due("points(0)", N, () -> y.points(0));
  }

  private static void doubled() {
    DesignsOffice x = new DesignsOffice();
    int[][] want = {{1, 1, 1, 1}, {1, -1, 1, -1}, {1, 1, -1, -1}, {1, -1, -1, 1}};
    Check.due("doubled(0, 2)", 4, () -> x.doubled(0, 2));
    for (int i = 0; i < 16; i++) {
      int place = i;
      Check.due("sign(0, " + i / 4 + ", " + i % 4 + ")", want[i / 4][i % 4], () -> x.sign(0, place / 4, place % 4));
    }
    for (int i = 0; i < 5; i++) {
      int times = i;
      Check.due("doubled(2, " + i + ")", 1 << i, () -> x.doubled(2, times));
      Check.due("areRowsApart(2)", true, () -> x.areRowsApart(2));
    }
    Check.due("sign(2, 15, 15)", 1, () -> x.sign(2, 15, 15));
    Check.due("sign(2, 14, 15)", -1, () -> x.sign(2, 14, 15));
    long sum = x.checksum();
    Check.due("doubled(3, 5)", I, () -> x.doubled(3, 5));
    Check.due("doubled(-1, 0)", I, () -> x.doubled(-1, 0));
    Check.due("doubled(0, 5)", A, () -> x.doubled(0, 5));
    Check.due("doubled(0, -1)", A, () -> x.doubled(0, -1));
    nothingHasChanged(x, sum, 6);
  }

  private static void primes() {
    DesignsOffice x = new DesignsOffice();
    Check.due("primes(0, 3)", 4, () -> x.primes(0, 3));
    int[][] want = {{1, 1, 1, 1}, {1, -1, -1, 1}, {1, 1, -1, -1}, {1, -1, 1, -1}};
    for (int i = 0; i < 16; i++) {
      int place = i;
      Check.due("sign(0, " + i / 4 + ", " + i % 4 + ")", want[i / 4][i % 4], () -> x.sign(0, place / 4, place % 4));
    }
    for (int prime : new int[] {7, 11, 19, 23}) {
      Check.due("primes(2, " + prime + ")", prime + 1, () -> x.primes(2, prime));
      Check.due("areRowsApart(2)", true, () -> x.areRowsApart(2));
    }
    Check.due("sign(2, 23, 23)", -1, () -> x.sign(2, 23, 23));
    // 22, which is -1, is no square modulo 23.
    Check.due("sign(2, 23, 22)", 1, () -> x.sign(2, 23, 22));
    Check.due("sign(2, 22, 23)", -1, () -> x.sign(2, 22, 23));
    long sum = x.checksum();
    Check.due("primes(3, 4)", I, () -> x.primes(3, 4));
    for (int prime : new int[] {-3, 0, 1, 2, 5, 13, 17, 31}) {
      Check.due("primes(0, " + prime + ")", A, () -> x.primes(0, prime));
    }
    nothingHasChanged(x, sum, 5);
  }

  private static void sign() {
    DesignsOffice x = new DesignsOffice();
    slotsAreLookedAt("sign(, 0, 0)", 3, slot -> x.sign(slot, 0, 0), N);
    x.doubled(1, 1);
    Check.due("sign(1, 1, 1)", -1, () -> x.sign(1, 1, 1));
    Check.due("sign(1, 0, 1)", 1, () -> x.sign(1, 0, 1));
    Check.due("sign(1, 2, 0)", N, () -> x.sign(1, 2, 0));
    Check.due("sign(1, 0, 2)", N, () -> x.sign(1, 0, 2));
    Check.due("sign(1, -1, 0)", N, () -> x.sign(1, -1, 0));
    Check.due("sign(1, 0, -1)", N, () -> x.sign(1, 0, -1));
    Check.due("sign(3, 0, -1)", I, () -> x.sign(3, 0, -1));
  }

  private static void flip() {
    DesignsOffice x = new DesignsOffice();
    slotsAreLookedAt("flip(, true, 0)", 3, slot -> x.flip(slot, true, 0), N);
    x.primes(0, 7);
    Check.due("flip(0, true, 0)", 0, () -> x.flip(0, true, 0));
    Check.due("flip(0, false, 0)", 1, () -> x.flip(0, false, 0));
    Check.due("sign(0, 0, 0)", 1, () -> x.sign(0, 0, 0));
    Check.due("sign(0, 0, 7)", -1, () -> x.sign(0, 0, 7));
    Check.due("sign(0, 7, 0)", -1, () -> x.sign(0, 7, 0));
    Check.due("sign(0, 7, 7)", -1, () -> x.sign(0, 7, 7));
    Check.due("flip(0, true, 7)", 5, () -> x.flip(0, true, 7));
    Check.due("sign(0, 7, 7) then", 1, () -> x.sign(0, 7, 7));
    Check.due("areRowsApart(0)", true, () -> x.areRowsApart(0));
    long sum = x.checksum();
    Check.due("flip(3, true, 8)", I, () -> x.flip(3, true, 8));
    Check.due("flip(0, true, 8)", N, () -> x.flip(0, true, 8));
    Check.due("flip(0, false, 8)", N, () -> x.flip(0, false, 8));
    Check.due("flip(0, false, -1)", N, () -> x.flip(0, false, -1));
    nothingHasChanged(x, sum, 4);
    Check.due("undo()", 2, x::undo);
    Check.due("undo()", 1, x::undo);
    Check.due("undo()", 0, x::undo);
    Check.due("sign(0, 0, 0)", N, () -> x.sign(0, 0, 0));
  }

  private static void areRowsApart() {
    DesignsOffice x = new DesignsOffice();
    slotsAreLookedAt("areRowsApart", 3, slot -> x.areRowsApart(slot), N);
    x.doubled(0, 0);
    Check.due("one row", true, () -> x.areRowsApart(0));
    x.flip(0, false, 0);
    Check.due("one row of one -1", true, () -> x.areRowsApart(0));
    x.primes(0, 23);
    x.flip(0, true, 5);
    x.flip(0, false, 6);
    Check.due("24 rows, changed", true, () -> x.areRowsApart(0));
  }

  private static void designOf() {
    DesignsOffice x = new DesignsOffice();
    slotsAreLookedAt("designOf(, 0)", 3, slot -> x.designOf(slot, 0), N);
    slotsAreLookedAt("designOf(, 6)", 3, slot -> x.designOf(slot, 6), I);
    x.doubled(0, 2);
    Check.due("designOf(0, 5)", 3, () -> x.designOf(0, 5));
    Check.due("points(5)", 3, () -> x.points(5));
    int[] want = {2, 1, 4};
    for (int i = 0; i < 3; i++) {
      int block = i;
      Check.due("bitsOf(5, " + i + ")", want[i], () -> x.bitsOf(5, block));
    }
    x.primes(1, 23);
    x.flip(1, true, 4);
    Check.due("designOf(1, 5), a row being changed", 23, () -> x.designOf(1, 5));
    Check.due("isEven(5)", true, () -> x.isEven(5));
    Check.due("cause by its numbers", 5, () -> x.pairs(5, 0, 1));
    x.flip(0, false, 2);
    x.doubled(2, 1);
    long sum = x.checksum();
    // The row 1 is 1 -1 -1 -1 now.
    Check.due("designOf(0, 0), a block without points", U, () -> x.designOf(0, 0));
    Check.due("designOf(1, 0), the last block being without points", U, () -> {
      DesignsOffice y = new DesignsOffice();
      y.doubled(1, 2);
      y.flip(1, false, 3);
      return y.designOf(1, 0);
    });
    Check.due("designOf(2, 0), two rows", U, () -> x.designOf(2, 0));
    Check.due("designOf(0, -1)", I, () -> x.designOf(0, -1));
    nothingHasChanged(x, sum, 7);
  }

  private static void daysAreLookedAt(String name, java.util.function.Function<int[], Object> call) {
    int[][] wrong = {{3, 0, 0}, {0, 0, 0}, {22, 0, 0}, {-2, 0, 0}, {4, 3, 0}, {4, -1, 0}, {4, 0, 4}, {4, 0, -1},
        {2, 1, 0}, {1, 0, 0}};
    for (int[] day : wrong) {
      Check.due(name + java.util.Arrays.toString(day), A, () -> call.apply(day));
    }
  }

  private static void plays() {
    DesignsOffice x = new DesignsOffice();
    int[][] want = {{3, 2, 1, 0}, {1, 0, 3, 2}, {2, 3, 0, 1}};
    for (int i = 0; i < 12; i++) {
      int place = i;
      Check.due("plays(4, " + i / 4 + ", " + i % 4 + ")", want[i / 4][i % 4], () -> x.plays(4, place / 4, place % 4));
    }
    Check.due("plays(2, 0, 0)", 1, () -> x.plays(2, 0, 0));
    Check.due("plays(2, 0, 1)", 0, () -> x.plays(2, 0, 1));
    // 2 times 14 is 9 modulo 19.
    Check.due("plays(20, 9, 19)", 14, () -> x.plays(20, 9, 19));
    Check.due("plays(20, 9, 14)", 19, () -> x.plays(20, 9, 14));
    Check.due("plays(20, 18, 0)", 18, () -> x.plays(20, 18, 0));
    Check.due("plays(20, 0, 18)", 1, () -> x.plays(20, 0, 18));
    daysAreLookedAt("plays", day -> x.plays(day[0], day[1], day[2]));
  }

  private static void isHome() {
    DesignsOffice x = new DesignsOffice();
    boolean[][] want = {{false, true, false, true}, {true, false, true, false}, {false, false, true, true}};
    for (int i = 0; i < 12; i++) {
      int place = i;
      Check.due("isHome(4, " + i / 4 + ", " + i % 4 + ")", want[i / 4][i % 4],
          () -> x.isHome(4, place / 4, place % 4));
    }
    Check.due("isHome(2, 0, 0)", false, () -> x.isHome(2, 0, 0));
    Check.due("isHome(2, 0, 1)", true, () -> x.isHome(2, 0, 1));
    Check.due("isHome(20, 9, 19)", false, () -> x.isHome(20, 9, 19));
    Check.due("isHome(20, 9, 14)", true, () -> x.isHome(20, 9, 14));
    daysAreLookedAt("isHome", day -> x.isHome(day[0], day[1], day[2]));
  }

  private static void breaks() {
    DesignsOffice x = new DesignsOffice();
    for (int i = 2; i < 21; i += 2) {
      int teams = i;
      Check.due("breaks(" + i + ")", i - 2, () -> x.breaks(teams));
    }
    for (int teams : new int[] {-2, 0, 1, 3, 19, 21, 22}) {
      Check.due("breaks(" + teams + ")", A, () -> x.breaks(teams));
    }
  }

  private static void setting() {
    DesignsOffice x = new DesignsOffice();
    Check.due("setting(3, 0, 2)", 0, () -> x.setting(3, 0, 2));
    Check.due("setting(3, 4, 0)", 1, () -> x.setting(3, 4, 0));
    Check.due("setting(3, 5, 1)", 0, () -> x.setting(3, 5, 1));
    Check.due("setting(3, 6, 2)", 1, () -> x.setting(3, 6, 2));
    Check.due("setting(3, 6, 3)", 2, () -> x.setting(3, 6, 3));
    Check.due("setting(4, 11, 2)", 0, () -> x.setting(4, 11, 2));
    Check.due("setting(9, 80, 8)", 5, () -> x.setting(9, 80, 8));
    Check.due("setting(8, 63, 7)", 4, () -> x.setting(8, 63, 7));
    for (int levels : new int[] {-3, 0, 1, 6, 10}) {
      Check.due("setting(" + levels + ", 0, 0)", A, () -> x.setting(levels, 0, 0));
    }
    Check.due("setting(3, 9, 0)", A, () -> x.setting(3, 9, 0));
    Check.due("setting(3, -1, 0)", A, () -> x.setting(3, -1, 0));
    Check.due("setting(3, 0, 4)", A, () -> x.setting(3, 0, 4));
    Check.due("setting(3, 0, -1)", A, () -> x.setting(3, 0, -1));
  }

  private static void unmet() {
    DesignsOffice x = new DesignsOffice();
    PlainOffice plain = new PlainOffice();
    for (int l : new int[] {2, 3, 4, 5, 7, 8, 9}) {
      for (int f = 2; f <= l + 1; f++) {
        for (int r = 0; r <= l * l; r++) {
          int levels = l;
          int factors = f;
          int rows = r;
          Check.due("unmet(" + l + ", " + f + ", " + r + ")", plain.unmet(l, f, r),
              () -> x.unmet(levels, factors, rows));
        }
      }
    }
    Check.due("unmet(2, 3, 0)", 12, () -> x.unmet(2, 3, 0));
    Check.due("unmet(9, 10, 81)", 0, () -> x.unmet(9, 10, 81));
    for (int levels : new int[] {-3, 0, 1, 6, 10}) {
      Check.due("unmet(" + levels + ", 2, 0)", A, () -> x.unmet(levels, 2, 0));
    }
    Check.due("unmet(3, 1, 0)", A, () -> x.unmet(3, 1, 0));
    Check.due("unmet(3, 5, 0)", A, () -> x.unmet(3, 5, 0));
    Check.due("unmet(3, 2, 10)", A, () -> x.unmet(3, 2, 10));
    Check.due("unmet(3, 2, -1)", A, () -> x.unmet(3, 2, -1));
  }

  public static void main(String[] args) {
    Check.test("promise 28: shifts", TablesTest::shifts);
    Check.test("promise 29: field", TablesTest::field);
    Check.test("promise 29: field is a field", TablesTest::fieldIsOne);
    Check.test("promise 30: setCell", TablesTest::setCell);
    Check.test("promise 31: order", TablesTest::order);
    Check.test("promise 32: cell", TablesTest::cell);
    Check.test("promise 33: isSquare", TablesTest::isSquare);
    Check.test("promise 34: turn", TablesTest::turn);
    Check.test("promise 35: areApart", TablesTest::areApart);
    Check.test("promise 36: transversals", TablesTest::transversals);
    Check.test("promise 37: planeOf", TablesTest::planeOf);
    Check.test("promise 38: doubled", TablesTest::doubled);
    Check.test("promise 39: primes", TablesTest::primes);
    Check.test("promise 40: sign", TablesTest::sign);
    Check.test("promise 41: flip", TablesTest::flip);
    Check.test("promise 42: areRowsApart", TablesTest::areRowsApart);
    Check.test("promise 43: designOf", TablesTest::designOf);
    Check.test("promise 44: plays", TablesTest::plays);
    Check.test("promise 45: isHome", TablesTest::isHome);
    Check.test("promise 46: breaks", TablesTest::breaks);
    Check.test("promise 47: setting", TablesTest::setting);
    Check.test("promise 48: unmet", TablesTest::unmet);
    Check.end();
  }
}
