/** Promises 1 to 27: a new object, and designs. */
final class DesignsTest {
  private static final String I = "IndexOutOfBoundsException";
  private static final String N = "NoSuchElementException";
  private static final String A = "IllegalArgumentException";
  private static final String S = "IllegalStateException";
  private static final String U = "UnsupportedOperationException";
  private static final int ALL = Integer.MAX_VALUE;

  private DesignsTest() {
  }

  /** An office whose slot 0 holds a design of told points and blocks. */
  private static DesignsOffice with(int points, int... blocks) {
    DesignsOffice x = new DesignsOffice();
    x.blank(0, points);
    for (int block : blocks) {
      x.block(0, block);
    }
    return x;
  }

  private static void blocksAre(DesignsOffice x, int slot, int... want) {
    Check.due("blocks(" + slot + ")", want.length, () -> x.blocks(slot));
    for (int i = 0; i < want.length; i++) {
      int block = i;
      Check.due("bitsOf(" + slot + ", " + i + ")", want[i], () -> x.bitsOf(slot, block));
    }
  }

  private static void nothingHasChanged(DesignsOffice x, long sum, int kept) {
    Check.due("checksum() after what threw", sum, x::checksum);
    Object want = kept == 0 ? N : (Object) (kept - 1);
    Check.due("undo() after what threw", want, x::undo);
  }

  private static void slotsAreLookedAt(String name, java.util.function.IntFunction<Object> call, Object atNone) {
    Check.due(name + " at -1", I, () -> call.apply(-1));
    Check.due(name + " at 6", I, () -> call.apply(6));
    Check.due(name + " at " + Integer.MIN_VALUE, I, () -> call.apply(Integer.MIN_VALUE));
    Check.due(name + " at none", atNone, () -> call.apply(5));
  }

  private static void newObject() {
    DesignsOffice x = new DesignsOffice();
    for (int i = 0; i < 6; i++) {
      int slot = i;
      Check.due("points(" + i + ")", N, () -> x.points(slot));
      Check.due("order(" + i + ")", N, () -> x.order(slot));
    }
    for (int i = 0; i < 3; i++) {
      int slot = i;
      Check.due("areRowsApart(" + i + ")", N, () -> x.areRowsApart(slot));
    }
    Check.due("erase()", 0, x::erase);
    Check.due("undo()", N, x::undo);
  }

  private static void blank() {
    DesignsOffice x = new DesignsOffice();
    Check.due("blank(0, 1)", 1, () -> x.blank(0, 1));
    Check.due("blank(5, 31)", 31, () -> x.blank(5, 31));
    Check.due("points(5)", 31, () -> x.points(5));
    blocksAre(x, 5);
    x.block(5, 1);
    Check.due("blank(5, 2)", 2, () -> x.blank(5, 2));
    blocksAre(x, 5);
    long sum = x.checksum();
    Check.due("blank(6, 0)", I, () -> x.blank(6, 0));
    Check.due("blank(-1, 3)", I, () -> x.blank(-1, 3));
    Check.due("blank(0, 0)", A, () -> x.blank(0, 0));
    Check.due("blank(0, 32)", A, () -> x.blank(0, 32));
    Check.due("blank(0, -5)", A, () -> x.blank(0, -5));
    nothingHasChanged(x, sum, 4);
    blocksAre(x, 5, 1);
  }

  private static void block() {
    DesignsOffice x = new DesignsOffice();
    slotsAreLookedAt("block(, 0)", slot -> x.block(slot, 0), N);
    x.blank(1, 3);
    Check.due("block(1, 7)", 0, () -> x.block(1, 7));
    Check.due("block(1, 7) again", 1, () -> x.block(1, 7));
    Check.due("block(1, 0)", A, () -> x.block(1, 0));
    Check.due("block(1, 8)", A, () -> x.block(1, 8));
    Check.due("block(1, -1)", A, () -> x.block(1, -1));
    x.blank(0, 31);
    Check.due("block(0, ALL)", 0, () -> x.block(0, ALL));
    Check.due("block(0, MIN)", A, () -> x.block(0, Integer.MIN_VALUE));
    for (int i = 1; i < 160; i++) {
      int number = i;
      Check.due("block(0, " + i + ")", i, () -> x.block(0, number));
    }
    long sum = x.checksum();
    Check.due("block(0, 1) above 160", S, () -> x.block(0, 1));
    Check.due("block(0, 0) above 160", A, () -> x.block(0, 0));
    Check.due("block(6, 1) above 160", I, () -> x.block(6, 1));
    Check.due("blocks(0)", 160, () -> x.blocks(0));
    nothingHasChanged(x, sum, 8);
    Check.due("blocks(0) after undo()", 159, () -> x.blocks(0));
    Check.due("block(0, 1) after undo()", 159, () -> x.block(0, 1));
  }

  private static void shift() {
    DesignsOffice x = new DesignsOffice();
    Check.due("shift(0, 4, 3)", 4, () -> x.shift(0, 4, 3));
    blocksAre(x, 0, 3, 6, 12, 9);
    Check.due("shift(0, 4, 5)", 4, () -> x.shift(0, 4, 5));
    blocksAre(x, 0, 5, 10, 5, 10);
    Check.due("shift(1, 1, 1)", 1, () -> x.shift(1, 1, 1));
    blocksAre(x, 1, 1);
    Check.due("shift(2, 31, 1 << 30)", 31, () -> x.shift(2, 31, 1 << 30 | 1));
    Check.due("bitsOf(2, 1)", 3, () -> x.bitsOf(2, 1));
    Check.due("bitsOf(2, 30)", 3 << 29, () -> x.bitsOf(2, 30));
    long sum = x.checksum();
    Check.due("shift(6, 0, 0)", I, () -> x.shift(6, 0, 0));
    Check.due("shift(0, 0, 1)", A, () -> x.shift(0, 0, 1));
    Check.due("shift(0, 32, 1)", A, () -> x.shift(0, 32, 1));
    Check.due("shift(0, -1, 1)", A, () -> x.shift(0, -1, 1));
    Check.due("shift(0, 4, 0)", A, () -> x.shift(0, 4, 0));
    Check.due("shift(0, 4, 16)", A, () -> x.shift(0, 4, 16));
    Check.due("shift(0, 31, -1)", A, () -> x.shift(0, 31, -1));
    nothingHasChanged(x, sum, 4);
  }

  private static void affine() {
    DesignsOffice x = new DesignsOffice();
    Check.due("affine(0, 2)", 6, () -> x.affine(0, 2));
    blocksAre(x, 0, 5, 10, 9, 6, 3, 12);
    Check.due("affine(0, 3)", 12, () -> x.affine(0, 3));
    // m = 0: y = c; m = 1: y = x + c; m = 2: y = 2 x + c; then x = c.
    blocksAre(x, 0, 73, 146, 292, 1 | 16 | 256, 2 | 32 | 64, 4 | 8 | 128, 1 | 32 | 128, 2 | 8 | 256, 4 | 16 | 64,
        7, 56, 448);
    Check.due("affine(0, 4)", 20, () -> x.affine(0, 4));
    // m = 2, c = 1: y = z x + 1, at x of 0, 1, z and z + 1: 1, 3, z + 2 = 2 and 0.
    Check.due("bitsOf(0, 9)", 1 << 1 | 1 << 7 | 1 << 10 | 1 << 12, () -> x.bitsOf(0, 9));
    Check.due("affine(0, 5)", 30, () -> x.affine(0, 5));
    Check.due("points(0)", 25, () -> x.points(0));
    Check.due("isEven(0)", true, () -> x.isEven(0));
    Check.due("meets(0, 0, 1)", 0, () -> x.meets(0, 0, 1));
    long sum = x.checksum();
    Check.due("affine(6, 6)", I, () -> x.affine(6, 6));
    Check.due("affine(-1, 2)", I, () -> x.affine(-1, 2));
    Check.due("affine(0, 1)", A, () -> x.affine(0, 1));
    Check.due("affine(0, 6)", A, () -> x.affine(0, 6));
    Check.due("affine(0, -2)", A, () -> x.affine(0, -2));
    nothingHasChanged(x, sum, 4);
  }

  private static void projective() {
    DesignsOffice x = new DesignsOffice();
    Check.due("projective(0, 2)", 7, () -> x.projective(0, 2));
    blocksAre(x, 0, 5 | 16, 10 | 16, 9 | 32, 6 | 32, 3 | 64, 12 | 64, 112);
    for (int q = 2; q < 6; q++) {
      int order = q;
      int all = q * q + q + 1;
      Check.due("projective(1, " + q + ")", all, () -> x.projective(1, order));
      Check.due("points(1)", all, () -> x.points(1));
      Check.due("isEven(1)", true, () -> x.isEven(1));
      Check.due("bitsOf(1, the last)", ((1 << q + 1) - 1) << q * q, () -> x.bitsOf(1, all - 1));
      Check.due("often(1, the last)", q + 1, () -> x.often(1, all - 1));
    }
    long sum = x.checksum();
    Check.due("projective(6, 1)", I, () -> x.projective(6, 1));
    Check.due("projective(0, 1)", A, () -> x.projective(0, 1));
    Check.due("projective(0, 6)", A, () -> x.projective(0, 6));
    nothingHasChanged(x, sum, 5);
  }

  private static void bose() {
    DesignsOffice x = new DesignsOffice();
    Check.due("bose(0, 0)", 1, () -> x.bose(0, 0));
    blocksAre(x, 0, 7);
    Check.due("bose(0, 1)", 12, () -> x.bose(0, 1));
    // The half of 1 is 2, that of 2 is 1, that of 3, which is 0, is 0.
    blocksAre(x, 0, 1 | 8 | 64, 2 | 16 | 128, 4 | 32 | 256,
        3 | 32, 24 | 256, 192 | 4, 5 | 16, 40 | 128, 320 | 2, 6 | 8, 48 | 64, 384 | 1);
    int[] counts = {1, 12, 35, 70, 117};
    for (int i = 1; i < 5; i++) {
      int t = i;
      Check.due("bose(1, " + t + ")", counts[t], () -> x.bose(1, t));
      Check.due("points(1)", 6 * t + 3, () -> x.points(1));
      Check.due("isEven(1)", true, () -> x.isEven(1));
    }
    long sum = x.checksum();
    Check.due("bose(6, -1)", I, () -> x.bose(6, -1));
    Check.due("bose(0, -1)", A, () -> x.bose(0, -1));
    Check.due("bose(0, 5)", A, () -> x.bose(0, 5));
    nothingHasChanged(x, sum, 6);
  }

  private static void skolem() {
    DesignsOffice x = new DesignsOffice();
    Check.due("skolem(0, 1)", 7, () -> x.skolem(0, 1));
    // First 0, 2, 4; then 6 with 1 and 2, 3 and 4, 5 and 0; then 0 and 1 with the half of 1, which is 1.
    blocksAre(x, 0, 21, 64 | 2 | 4, 64 | 8 | 16, 64 | 32 | 1, 3 | 8, 12 | 32, 48 | 2);
    int[] counts = {0, 7, 26, 57, 100, 155};
    for (int i = 1; i < 6; i++) {
      int t = i;
      Check.due("skolem(1, " + t + ")", counts[t], () -> x.skolem(1, t));
      Check.due("points(1)", 6 * t + 1, () -> x.points(1));
      Check.due("isEven(1)", true, () -> x.isEven(1));
    }
    long sum = x.checksum();
    Check.due("skolem(6, 0)", I, () -> x.skolem(6, 0));
    Check.due("skolem(0, 0)", A, () -> x.skolem(0, 0));
    Check.due("skolem(0, 6)", A, () -> x.skolem(0, 6));
    nothingHasChanged(x, sum, 6);
  }

  private static void product() {
    DesignsOffice x = new DesignsOffice();
    x.bose(0, 0);
    x.skolem(1, 1);
    Check.due("product(0, 0, 2)", 12, () -> x.product(0, 0, 2));
    blocksAre(x, 2, 7, 56, 448, 73, 146, 292, 1 | 16 | 256, 1 | 32 | 128, 2 | 8 | 256, 2 | 32 | 64, 4 | 8 | 128,
        4 | 16 | 64);
    Check.due("product(0, 1, 3)", 70, () -> x.product(0, 1, 3));
    Check.due("points(3)", 21, () -> x.points(3));
    Check.due("bitsOf(3, 7)", 21 << 7, () -> x.bitsOf(3, 7));
    Check.due("bitsOf(3, 21)", 1 | 1 << 7 | 1 << 14, () -> x.bitsOf(3, 21));
    // The first block of the other one is 0, 2, 4, the second one 1, 2, 6; each stands in six orders.
    Check.due("bitsOf(3, 28)", 1 | 1 << 9 | 1 << 18, () -> x.bitsOf(3, 28));
    Check.due("bitsOf(3, 34)", 1 << 1 | 1 << 9 | 1 << 20, () -> x.bitsOf(3, 34));
    Check.due("bitsOf(3, 35)", 1 << 1 | 1 << 13 | 1 << 16, () -> x.bitsOf(3, 35));
    Check.due("product(1, 0, 0), into itself", 70, () -> x.product(1, 0, 0));
    Check.due("isEven(0)", true, () -> x.isEven(0));
    x.blank(4, 6);
    x.blank(5, 5);
    Check.due("product(4, 5, 5) without blocks", 0, () -> x.product(4, 5, 5));
    Check.due("points(5)", 30, () -> x.points(5));
    productIsRefused();
  }

  private static void productIsRefused() {
    DesignsOffice x = with(3, 7, 7);
    x.blank(1, 3);
    x.block(1, 3);
    x.skolem(2, 1);
    x.affine(3, 3);
    long sum = x.checksum();
    Check.due("product(6, 5, 5)", I, () -> x.product(6, 5, 5));
    Check.due("product(5, 6, 5)", I, () -> x.product(5, 6, 5));
    Check.due("product(5, 5, 6)", I, () -> x.product(5, 5, 6));
    Check.due("product(5, 1, 0)", N, () -> x.product(5, 1, 0));
    Check.due("product(1, 5, 0)", N, () -> x.product(1, 5, 0));
    Check.due("product(0, 1, 0) of a pair", U, () -> x.product(0, 1, 0));
    Check.due("product(1, 0, 0) of a pair", U, () -> x.product(1, 0, 0));
    Check.due("product(2, 2, 0), 49 points", U, () -> x.product(2, 2, 0));
    Check.due("blocks(0)", 2, () -> x.blocks(0));
    Check.due("product(0, 3, 4), 204 blocks", U, () -> x.product(0, 3, 4));
    nothingHasChanged(x, sum, 7);
    DesignsOffice y = with(3, 7, 7, 7, 7);
    y.blank(1, 4);
    for (int i = 0; i < 5; i++) {
      y.block(1, 7);
    }
    // 3 times 5 and 4 times 4 and 6 times 20 are 151; one block more is 178.
    Check.due("product(0, 1, 2)", 151, () -> y.product(0, 1, 2));
    y.block(1, 14);
    Check.due("product(0, 1, 2), 178 blocks", U, () -> y.product(0, 1, 2));
    productAtItsEdges();
  }

  private static void productAtItsEdges() {
    DesignsOffice x = with(31, 7 << 28);
    x.blank(1, 1);
    x.blank(2, 6);
    Check.due("product(0, 1, 3), 31 points", 1, () -> x.product(0, 1, 3));
    blocksAre(x, 3, 7 << 28);
    Check.due("product(1, 0, 3), 31 points", 1, () -> x.product(1, 0, 3));
    Check.due("product(2, 2, 3), 36 points", U, () -> x.product(2, 2, 3));
    x.blank(4, 5);
    for (int i = 0; i < 32; i++) {
      x.block(2, 7);
    }
    Check.due("product(4, 2, 3), 160 blocks", 160, () -> x.product(4, 2, 3));
    Check.due("product(2, 4, 3), 160 blocks", 160, () -> x.product(2, 4, 3));
    x.block(2, 7);
    Check.due("product(4, 2, 3), 165 blocks", U, () -> x.product(4, 2, 3));
    Check.due("product(2, 4, 3), 165 blocks", U, () -> x.product(2, 4, 3));
  }

  private static void points() {
    DesignsOffice x = new DesignsOffice();
    slotsAreLookedAt("points", slot -> x.points(slot), N);
    x.blank(0, 17);
    Check.due("points(0)", 17, () -> x.points(0));
  }

  private static void blocks() {
    DesignsOffice x = new DesignsOffice();
    slotsAreLookedAt("blocks", slot -> x.blocks(slot), N);
    x.blank(0, 17);
    Check.due("blocks(0)", 0, () -> x.blocks(0));
    x.block(0, 3);
    x.block(0, 3);
    Check.due("blocks(0)", 2, () -> x.blocks(0));
  }

  private static void bitsOf() {
    DesignsOffice x = with(31, ALL, 6);
    slotsAreLookedAt("bitsOf(, 0)", slot -> x.bitsOf(slot, 0), N);
    Check.due("bitsOf(0, 0)", ALL, () -> x.bitsOf(0, 0));
    Check.due("bitsOf(0, 1)", 6, () -> x.bitsOf(0, 1));
    Check.due("bitsOf(0, 2)", N, () -> x.bitsOf(0, 2));
    Check.due("bitsOf(0, -1)", N, () -> x.bitsOf(0, -1));
    Check.due("bitsOf(6, -1)", I, () -> x.bitsOf(6, -1));
  }

  private static void often() {
    DesignsOffice x = with(4, 3, 3, 6);
    slotsAreLookedAt("often(, 0)", slot -> x.often(slot, 0), N);
    int[] want = {2, 3, 1, 0};
    for (int i = 0; i < 4; i++) {
      int point = i;
      Check.due("often(0, " + i + ")", want[i], () -> x.often(0, point));
    }
    Check.due("often(0, 4)", N, () -> x.often(0, 4));
    Check.due("often(0, -1)", N, () -> x.often(0, -1));
    Check.due("often(0, 32)", N, () -> x.often(0, 32));
    Check.due("often(6, 4)", I, () -> x.often(6, 4));
  }

  private static void pairs() {
    DesignsOffice x = with(4, 3, 7, 6);
    slotsAreLookedAt("pairs(, 0, 0)", slot -> x.pairs(slot, 0, 0), N);
    Check.due("pairs(0, 0, 1)", 2, () -> x.pairs(0, 0, 1));
    Check.due("pairs(0, 1, 0)", 2, () -> x.pairs(0, 1, 0));
    Check.due("pairs(0, 0, 2)", 1, () -> x.pairs(0, 0, 2));
    Check.due("pairs(0, 1, 1)", 3, () -> x.pairs(0, 1, 1));
    Check.due("pairs(0, 3, 0)", 0, () -> x.pairs(0, 3, 0));
    Check.due("pairs(0, 4, 0)", N, () -> x.pairs(0, 4, 0));
    Check.due("pairs(0, 0, 4)", N, () -> x.pairs(0, 0, 4));
    Check.due("pairs(0, 0, -1)", N, () -> x.pairs(0, 0, -1));
    Check.due("pairs(0, -1, 0)", N, () -> x.pairs(0, -1, 0));
  }

  private static void meets() {
    DesignsOffice x = with(31, 7, 14, ALL);
    slotsAreLookedAt("meets(, 0, 0)", slot -> x.meets(slot, 0, 0), N);
    Check.due("meets(0, 0, 1)", 2, () -> x.meets(0, 0, 1));
    Check.due("meets(0, 1, 1)", 3, () -> x.meets(0, 1, 1));
    Check.due("meets(0, 2, 2)", 31, () -> x.meets(0, 2, 2));
    Check.due("meets(0, 3, 0)", N, () -> x.meets(0, 3, 0));
    Check.due("meets(0, 0, 3)", N, () -> x.meets(0, 0, 3));
    Check.due("meets(0, -1, 0)", N, () -> x.meets(0, -1, 0));
    Check.due("meets(0, 0, -1)", N, () -> x.meets(0, 0, -1));
    Check.due("meets(-1, 0, -1)", I, () -> x.meets(-1, 0, -1));
  }

  private static void distance() {
    DesignsOffice x = with(31, 7, 14, ALL);
    slotsAreLookedAt("distance(, 0, 0)", slot -> x.distance(slot, 0, 0), N);
    Check.due("distance(0, 0, 1)", 2, () -> x.distance(0, 0, 1));
    Check.due("distance(0, 1, 1)", 0, () -> x.distance(0, 1, 1));
    Check.due("distance(0, 2, 0)", 28, () -> x.distance(0, 2, 0));
    Check.due("distance(0, 3, 0)", N, () -> x.distance(0, 3, 0));
    Check.due("distance(0, 0, 3)", N, () -> x.distance(0, 0, 3));
    Check.due("distance(0, -1, 0)", N, () -> x.distance(0, -1, 0));
    Check.due("distance(0, 0, -1)", N, () -> x.distance(0, 0, -1));
  }

  private static void isEven() {
    DesignsOffice x = new DesignsOffice();
    slotsAreLookedAt("isEven", slot -> x.isEven(slot), N);
    Check.due("three pairs of three", true, () -> with(3, 3, 5, 6).isEven(0));
    Check.due("three pairs of three, twice", true, () -> with(3, 3, 5, 6, 6, 3, 5).isEven(0));
    Check.due("two pairs of three", false, () -> with(3, 3, 5).isEven(0));
    Check.due("a pair twice", false, () -> with(3, 3, 5, 6, 6).isEven(0));
    Check.due("no blocks", false, () -> with(3).isEven(0));
    Check.due("blocks of all points", false, () -> with(3, 7, 7).isEven(0));
    Check.due("blocks of one point", false, () -> with(3, 1, 2, 4).isEven(0));
    Check.due("blocks of unlike sizes", false, () -> with(3, 3, 5, 6, 7).isEven(0));
    Check.due("blocks of unlike sizes, but all pairs alike", false, () -> with(3, 3, 7, 5, 6).isEven(0));
    Check.due("one point", false, () -> with(1, 1).isEven(0));
    Check.due("two points", false, () -> with(2, 3).isEven(0));
    Check.due("four triples of four", true, () -> with(4, 7, 11, 13, 14).isEven(0));
  }

  private static void fault() {
    DesignsOffice x = new DesignsOffice();
    slotsAreLookedAt("fault", slot -> x.fault(slot), N);
    Check.due("one point", -1, () -> with(1, 1).fault(0));
    Check.due("two points", -1, () -> with(2, 3).fault(0));
    Check.due("no blocks", -1, () -> with(31).fault(0));
    Check.due("the pair 0, 1 alone", 2, () -> with(4, 3).fault(0));
    Check.due("the pair 2, 3 alone", 203, () -> with(4, 12).fault(0));
    Check.due("the last pair", 2930, () -> with(31, 3 << 29).fault(0));
    Check.due("a lesser point first", 103, () -> with(4, 10, 12).fault(0));
    Check.due("a plane", -1, () -> {
      x.projective(0, 5);
      return x.fault(0);
    });
  }

  private static void cause() {
    DesignsOffice x = new DesignsOffice();
    Check.due("cause(7, 3, 1)", '-', () -> x.cause(7, 3, 1));
    Check.due("cause(6, 3, 1)", 'r', () -> x.cause(6, 3, 1));
    Check.due("cause(8, 3, 2)", 'b', () -> x.cause(8, 3, 2));
    Check.due("cause(16, 6, 1)", 'f', () -> x.cause(16, 6, 1));
    Check.due("cause(22, 7, 2)", 's', () -> x.cause(22, 7, 2));
    Check.due("cause(16, 6, 2), 4 being a square", '-', () -> x.cause(16, 6, 2));
    Check.due("cause(43, 7, 1), an odd number of points", '-', () -> x.cause(43, 7, 1));
    Check.due("cause(4, 3, 2), 1 being a square", '-', () -> x.cause(4, 3, 2));
    Check.due("cause(3, 2, 1)", '-', () -> x.cause(3, 2, 1));
    Check.due("cause(100000, 99999, 99998)", '-', () -> x.cause(100000, 99999, 99998));
    Check.due("cause(100000, 2, 100000)", '-', () -> x.cause(100000, 2, 100000));
    Check.due("cause(100000, 99999, 100000)", 'r', () -> x.cause(100000, 99999, 100000));
    Check.due("cause(2, 2, 1)", A, () -> x.cause(2, 2, 1));
    Check.due("cause(1, 2, 1)", A, () -> x.cause(1, 2, 1));
    Check.due("cause(100001, 3, 1)", A, () -> x.cause(100001, 3, 1));
    Check.due("cause(7, 1, 1)", A, () -> x.cause(7, 1, 1));
    Check.due("cause(7, 7, 1)", A, () -> x.cause(7, 7, 1));
    Check.due("cause(7, 8, 1)", A, () -> x.cause(7, 8, 1));
    Check.due("cause(7, 3, 0)", A, () -> x.cause(7, 3, 0));
    Check.due("cause(7, 3, 100001)", A, () -> x.cause(7, 3, 100001));
    Check.due("cause(-7, -8, 1)", A, () -> x.cause(-7, -8, 1));
  }

  private static void rest() {
    DesignsOffice x = with(4, 1, 6, 14);
    Check.due("rest(0, 1)", 3, () -> x.rest(0, 1));
    blocksAre(x, 1, 14, 9, 1);
    Check.due("points(1)", 4, () -> x.points(1));
    Check.due("rest(0, 0)", 3, () -> x.rest(0, 0));
    blocksAre(x, 0, 14, 9, 1);
    x.blank(2, 5);
    Check.due("rest(2, 3) without blocks", 0, () -> x.rest(2, 3));
    Check.due("points(3)", 5, () -> x.points(3));
    x.block(0, 15);
    long sum = x.checksum();
    Check.due("rest(6, 0)", I, () -> x.rest(6, 0));
    Check.due("rest(5, 6)", I, () -> x.rest(5, 6));
    Check.due("rest(5, 0)", N, () -> x.rest(5, 0));
    Check.due("rest(0, 4), a block having all", U, () -> x.rest(0, 4));
    Check.due("rest, the first block having all", U, () -> with(31, ALL, 1).rest(0, 0));
    nothingHasChanged(x, sum, 8);
  }

  private static void dual() {
    DesignsOffice x = with(3, 3, 6, 1, 1);
    Check.due("dual(0, 1)", 4, () -> x.dual(0, 1));
    blocksAre(x, 1, 13, 3, 2);
    Check.due("points(1)", 4, () -> x.points(1));
    Check.due("dual(1, 1)", 3, () -> x.dual(1, 1));
    blocksAre(x, 1, 3, 6, 1, 1);
    x.projective(2, 5);
    Check.due("dual(2, 3)", 31, () -> x.dual(2, 3));
    Check.due("isEven(3)", true, () -> x.isEven(3));
    x.block(2, 1);
    x.blank(4, 2);
    long sum = x.checksum();
    Check.due("dual(6, 0)", I, () -> x.dual(6, 0));
    Check.due("dual(5, 6)", I, () -> x.dual(5, 6));
    Check.due("dual(5, 0)", N, () -> x.dual(5, 0));
    Check.due("dual(4, 0) without blocks", U, () -> x.dual(4, 0));
    Check.due("dual(2, 0) of 32 blocks", U, () -> x.dual(2, 0));
    nothingHasChanged(x, sum, 8);
    Check.due("dual of the last point in no block", U, () -> with(3, 3).dual(0, 0));
    Check.due("dual of the first point in no block", U, () -> with(3, 6).dual(0, 0));
    Check.due("dual of one block", 1, () -> with(31, ALL).dual(0, 0));
  }

  private static void part() {
    DesignsOffice x = with(5, 22, 6, 9, 22, 31);
    Check.due("part(0, 0, true, 1)", 3, () -> x.part(0, 0, true, 1));
    // The points 1, 2 and 4 are 0, 1 and 2; 0 and 3 leave nothing.
    blocksAre(x, 1, 3, 7, 7);
    Check.due("points(1)", 3, () -> x.points(1));
    Check.due("part(0, 0, false, 2)", 2, () -> x.part(0, 0, false, 2));
    blocksAre(x, 2, 3, 3);
    Check.due("points(2)", 2, () -> x.points(2));
    Check.due("part(0, 3, false, 2)", 2, () -> x.part(0, 3, false, 2));
    blocksAre(x, 2, 3, 3);
    Check.due("part(0, 4, true, 2)", 4, () -> x.part(0, 4, true, 2));
    blocksAre(x, 2, 22, 6, 9, 22);
    Check.due("part(0, 1, false, 2)", 4, () -> x.part(0, 1, false, 2));
    // The points 0, 3 and 4 are 0, 1 and 2.
    blocksAre(x, 2, 4, 3, 4, 7);
    Check.due("part(0, 2, true, 0), into itself", 1, () -> x.part(0, 2, true, 0));
    blocksAre(x, 0, 3);
    x.block(0, 3);
    long sum = x.checksum();
    Check.due("part(6, 9, true, 0)", I, () -> x.part(6, 9, true, 0));
    Check.due("part(0, 9, true, 6)", I, () -> x.part(0, 9, true, 6));
    Check.due("part(5, 0, true, 0)", N, () -> x.part(5, 0, true, 0));
    Check.due("part(0, 2, false, 0)", N, () -> x.part(0, 2, false, 0));
    Check.due("part(0, -1, false, 0)", N, () -> x.part(0, -1, false, 0));
    Check.due("part(0, 0, false, 0) without points", U, () -> x.part(0, 0, false, 0));
    nothingHasChanged(x, sum, 8);
  }

  private static DesignsOffice withSingles(int points, int times) {
    DesignsOffice x = new DesignsOffice();
    x.blank(0, points);
    for (int point = 0; point < points; point++) {
      for (int i = 0; i < times; i++) {
        x.block(0, 1 << point);
      }
    }
    return x;
  }

  private static void covers() {
    DesignsOffice x = new DesignsOffice();
    slotsAreLookedAt("covers", slot -> x.covers(slot), N);
    Check.due("no blocks", 0, () -> with(3).covers(0));
    Check.due("a point in none", 0, () -> with(3, 3, 1, 2).covers(0));
    Check.due("one block", 1, () -> with(31, ALL).covers(0));
    Check.due("one block twice", 2, () -> with(31, ALL, ALL).covers(0));
    Check.due("singles", 1, () -> withSingles(31, 1).covers(0));
    x.affine(0, 5);
    Check.due("covers of affine(0, 5)", 6, () -> x.covers(0));
    x.projective(0, 5);
    Check.due("covers of projective(0, 5)", 0, () -> x.covers(0));
    x.affine(0, 3);
    Check.due("covers of affine(0, 3), behind others", 4, () -> x.covers(0));
    x.blank(0, 9);
    Check.due("covers of nothing, behind others", 0, () -> x.covers(0));
    DesignsOffice sixty = with(3);
    for (int i = 0; i < 12; i++) {
      sixty.block(0, new int[] {1, 1, 1, 2, 2, 2, 2, 4, 4, 4, 4, 4}[i]);
    }
    Check.due("60 covers", 60, () -> sixty.covers(0));
    sixty.block(0, 7);
    Check.due("61 covers", U, () -> sixty.covers(0));
    DesignsOffice forty = with(1);
    for (int i = 0; i < 40; i++) {
      forty.block(0, 1);
    }
    Check.due("40 blocks", 40, () -> forty.covers(0));
    forty.block(0, 1);
    Check.due("41 blocks", U, () -> forty.covers(0));
    Check.due("covers(6) then", I, () -> forty.covers(6));
  }

  private static void coverSize() {
    DesignsOffice x = with(4, 3, 12, 1, 2, 4, 8, 15);
    slotsAreLookedAt("coverSize(, 9)", slot -> x.coverSize(slot, 9), N);
    // 0 1, 0 4 5, 1 2 3, 2 3 4 5, 6
    int[] want = {2, 3, 3, 4, 1};
    for (int i = 0; i < want.length; i++) {
      int index = i;
      Check.due("coverSize(0, " + i + ")", want[i], () -> x.coverSize(0, index));
    }
    Check.due("coverSize(0, 5)", A, () -> x.coverSize(0, 5));
    Check.due("coverSize(0, -1)", A, () -> x.coverSize(0, -1));
    Check.due("coverSize, more than 40 blocks", U, () -> withSingles(7, 6).coverSize(0, -1));
    Check.due("coverSize, more than 60 covers", U, () -> withSingles(6, 2).coverSize(0, -1));
  }

  private static void coverAt() {
    DesignsOffice x = with(4, 3, 12, 1, 2, 4, 8, 15);
    slotsAreLookedAt("coverAt(, 9, 9)", slot -> x.coverAt(slot, 9, 9), N);
    int[][] want = {{0, 1}, {0, 4, 5}, {1, 2, 3}, {2, 3, 4, 5}, {6}};
    for (int i = 0; i < want.length; i++) {
      for (int k = 0; k < want[i].length; k++) {
        int index = i;
        int place = k;
        Check.due("coverAt(0, " + i + ", " + k + ")", want[i][k], () -> x.coverAt(0, index, place));
      }
      int index = i;
      int end = want[i].length;
      Check.due("coverAt(0, " + i + ", behind)", A, () -> x.coverAt(0, index, end));
      Check.due("coverAt(0, " + i + ", -1)", A, () -> x.coverAt(0, index, -1));
    }
    Check.due("coverAt(0, 5, 0)", A, () -> x.coverAt(0, 5, 0));
    Check.due("coverAt(0, -1, 0)", A, () -> x.coverAt(0, -1, 0));
    Check.due("coverAt, more than 40 blocks", U, () -> withSingles(7, 6).coverAt(0, -1, 0));
    Check.due("coverAt, more than 60 covers", U, () -> withSingles(6, 2).coverAt(0, -1, 0));
    // By points, the covers would be found in another order than that of their numbers.
    DesignsOffice y = with(3, 4, 1, 2, 2, 1, 4);
    int[] firsts = {0, 0, 0, 0, 1, 1, 2, 3};
    for (int i = 0; i < firsts.length; i++) {
      int index = i;
      Check.due("coverAt(0, " + i + ", 0) of singles", firsts[i], () -> y.coverAt(0, index, 0));
    }
  }

  private static void isParted() {
    DesignsOffice x = new DesignsOffice();
    slotsAreLookedAt("isParted", slot -> x.isParted(slot), N);
    Check.due("no blocks", true, () -> with(3).isParted(0));
    Check.due("no cover", false, () -> with(3, 3, 5, 6).isParted(0));
    Check.due("one block beside", false, () -> with(3, 7, 7, 3).isParted(0));
    Check.due("unlike covers", true, () -> with(3, 7, 1, 6, 7, 3, 4).isParted(0));
    Check.due("covers that cross", false, () -> with(2, 1, 1, 2).isParted(0));
    Check.due("another choice than the first", true, () -> with(4, 3, 1, 12, 2, 12, 12, 3, 12, 3).isParted(0));
    Check.due("14 blocks", true, () -> withSingles(2, 7).isParted(0));
    Check.due("14 blocks of one point", true, () -> withSingles(1, 14).isParted(0));
    Check.due("15 blocks of one point", U, () -> withSingles(1, 15).isParted(0));
    Check.due("64 covers", U, () -> withSingles(6, 2).isParted(0));
    x.affine(0, 3);
    Check.due("a plane with parallels", true, () -> x.isParted(0));
    Check.due("isParted(6)", I, () -> x.isParted(6));
  }

  private static void ways() {
    DesignsOffice x = new DesignsOffice();
    slotsAreLookedAt("ways", slot -> x.ways(slot), N);
    Check.due("one point", 1, () -> with(1).ways(0));
    Check.due("no blocks", 5040, () -> with(7).ways(0));
    Check.due("a pair", 2 * 120, () -> with(7, 3).ways(0));
    Check.due("a circle", 14, () -> {
      x.shift(0, 7, 3);
      return x.ways(0);
    });
    Check.due("a plane", 168, () -> {
      x.projective(0, 2);
      return x.ways(0);
    });
    Check.due("blocks as often as they are there", 2, () -> with(3, 3, 3, 6).ways(0) + with(3, 3, 6, 1, 4, 4).ways(0));
    Check.due("a pair and a point in it", 1, () -> with(2, 3, 1).ways(0));
    Check.due("a point and all", 6, () -> with(4, 1, 15).ways(0));
    Check.due("a path", 2, () -> with(4, 3, 6, 12).ways(0));
    Check.due("eight points", U, () -> with(8).ways(0));
    Check.due("160 blocks", 1, () -> {
      DesignsOffice y = new DesignsOffice();
      y.blank(0, 7);
      for (int i = 0; i < 160; i++) {
        y.block(0, 1 << (i < 10 ? 0 : i < 30 ? 1 : i < 50 + 10 ? 2 : i < 100 ? 3 : i < 105 ? 4 : i < 112 ? 5 : 6));
      }
      return y.ways(0);
    });
  }

  public static void main(String[] args) {
    Check.test("promise 1: a new object", DesignsTest::newObject);
    Check.test("promise 2: blank", DesignsTest::blank);
    Check.test("promise 3: block", DesignsTest::block);
    Check.test("promise 4: shift", DesignsTest::shift);
    Check.test("promise 5: affine", DesignsTest::affine);
    Check.test("promise 6: projective", DesignsTest::projective);
    Check.test("promise 7: bose", DesignsTest::bose);
    Check.test("promise 8: skolem", DesignsTest::skolem);
    Check.test("promise 9: product", DesignsTest::product);
    Check.test("promise 10: points", DesignsTest::points);
    Check.test("promise 11: blocks", DesignsTest::blocks);
    Check.test("promise 12: bitsOf", DesignsTest::bitsOf);
    Check.test("promise 13: often", DesignsTest::often);
    Check.test("promise 14: pairs", DesignsTest::pairs);
    Check.test("promise 15: meets", DesignsTest::meets);
    Check.test("promise 16: distance", DesignsTest::distance);
    Check.test("promise 17: isEven", DesignsTest::isEven);
    Check.test("promise 18: fault", DesignsTest::fault);
    Check.test("promise 19: cause", DesignsTest::cause);
    Check.test("promise 20: rest", DesignsTest::rest);
    Check.test("promise 21: dual", DesignsTest::dual);
    Check.test("promise 22: part", DesignsTest::part);
    Check.test("promise 23: covers", DesignsTest::covers);
    Check.test("promise 24: coverSize", DesignsTest::coverSize);
    Check.test("promise 25: coverAt", DesignsTest::coverAt);
    Check.test("promise 26: isParted", DesignsTest::isParted);
    Check.test("promise 27: ways", DesignsTest::ways);
    Check.end();
  }
}
