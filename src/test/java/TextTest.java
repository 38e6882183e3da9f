/** Promises 49 to 56: the text, the past, and figures. */
final class TextTest {
  private static final String I = "IndexOutOfBoundsException";
  private static final String N = "NoSuchElementException";
  private static final String A = "IllegalArgumentException";
  private static final String S = "IllegalStateException";
  private static final String U = "UnsupportedOperationException";
  private static final String M = "ArithmeticException";

  private TextTest() {
  }

  private static void typeAll(DesignsOffice x, String text) {
    for (char sign : text.toCharArray()) {
      x.type(sign);
    }
  }

  private static void readIs(int want, String text) {
    DesignsOffice x = new DesignsOffice();
    typeAll(x, text);
    long none = new DesignsOffice().checksum();
    Check.due("read(3) of " + text, want, () -> x.read(3));
    Check.due("erase() behind " + text, 0, x::erase);
    if (want < 0) {
      Check.due("points(3) behind " + text, N, () -> x.points(3));
      Check.due("checksum() behind " + text, none, x::checksum);
      Check.due("undo() behind " + text, N, x::undo);
    } else {
      Check.due("undo() behind " + text, 0, x::undo);
    }
  }

  private static void type() {
    DesignsOffice x = new DesignsOffice();
    Check.due("type(31)", A, () -> x.type((char) 31));
    Check.due("type(127)", A, () -> x.type((char) 127));
    Check.due("type(0)", A, () -> x.type((char) 0));
    Check.due("type(65535)", A, () -> x.type((char) 65535));
    Check.due("type(32)", 1, () -> x.type(' '));
    Check.due("type(126)", 2, () -> x.type('~'));
    for (int i = 3; i <= 120; i++) {
      Check.due("type(x), the sign " + i, i, () -> x.type('x'));
    }
    long sum = x.checksum();
    Check.due("type(x) behind 120", S, () -> x.type('x'));
    Check.due("type(31) behind 120", A, () -> x.type((char) 31));
    Check.due("checksum()", sum, x::checksum);
    Check.due("undo(), the text not being kept", N, x::undo);
    Check.due("erase()", 120, x::erase);
    Check.due("type(x)", 1, () -> x.type('x'));
  }

  private static void erase() {
    DesignsOffice x = new DesignsOffice();
    Check.due("erase() of nothing", 0, x::erase);
    typeAll(x, "12:3");
    Check.due("erase()", 4, x::erase);
    Check.due("erase() again", 0, x::erase);
    Check.due("checksum()", new DesignsOffice().checksum(), x::checksum);
  }

  private static void read() {
    DesignsOffice x = new DesignsOffice();
    typeAll(x, "007:0,2,1;06");
    Check.due("read(6)", I, () -> x.read(6));
    Check.due("read(-1)", I, () -> x.read(-1));
    Check.due("read(2)", 2, () -> x.read(2));
    Check.due("points(2)", 7, () -> x.points(2));
    Check.due("bitsOf(2, 0)", 7, () -> x.bitsOf(2, 0));
    Check.due("bitsOf(2, 1)", 64, () -> x.bitsOf(2, 1));
    typeAll(x, "3:3");
    Check.due("read(2) at a fault", -3, () -> x.read(2));
    Check.due("points(2) behind a fault", 7, () -> x.points(2));
    Check.due("undo()", 0, x::undo);
    StringBuilder most = new StringBuilder("31:0");
    while (most.length() + 2 <= 120) {
      most.append(";0");
    }
    readIs(59, most.toString());
    readIs(1, "00000000000000000000000000000000000000004:3");
    readIs(0, "1");
    readIs(0, "31");
    readIs(1, "1:0");
    readIs(1, "31:30,0");
  }

  private static void readFaults() {
    String[] texts = {"", "x", "0", "32", "99999999999999999999", ":", "-1", "4x", "4,", "4 ", " 4", "4:", "4:x", "4:4",
        "4:0,", "4:0,0", "4:0,00", "4:0;", "4:0;;", "4:0,,", "4:0:1", "4:1,2;3,9x", "4:3x", "4:9x", "40x", "4:0;0,1,0",
        "4:99999999999999", "4:4294967296", "31:31", "31:30;30,30", "4:1 ,2", "4;1", "0:0", "4:1,;"};
    int[] faults = {0, 0, 0, 0, 0, 0, 0, 1, 1, 1, 0, 2, 2, 2,
        4, 4, 4, 4, 4, 4, 3, 8, 3, 2, 0, 8,
        2, 2, 3, 9, 3, 1, 0, 4};
    for (int i = 0; i < texts.length; i++) {
      readIs(-1 - faults[i], texts[i]);
    }
    StringBuilder full = new StringBuilder("31:0");
    while (full.length() + 2 <= 119) {
      full.append(";0");
    }
    readIs(-121, full.append("0;").substring(0, 119) + ";");
  }

  private static void undo() {
    DesignsOffice x = new DesignsOffice();
    Check.due("undo() of nothing", N, x::undo);
    x.blank(0, 3);
    x.block(0, 1);
    x.shifts(0, 3, 1, 1);
    x.setCell(0, 0, 0, 0);
    x.doubled(0, 1);
    x.flip(0, true, 0);
    x.type('x');
    Check.due("undo() of flip", 5, x::undo);
    Check.due("sign(0, 0, 0)", 1, () -> x.sign(0, 0, 0));
    Check.due("undo() of doubled", 4, x::undo);
    Check.due("sign(0, 0, 0)", N, () -> x.sign(0, 0, 0));
    Check.due("undo() of setCell, which changed nothing", 3, x::undo);
    Check.due("order(0)", 3, () -> x.order(0));
    Check.due("undo() of shifts", 2, x::undo);
    Check.due("order(0)", N, () -> x.order(0));
    Check.due("undo() of block", 1, x::undo);
    Check.due("blocks(0)", 0, () -> x.blocks(0));
    Check.due("undo() of blank", 0, x::undo);
    Check.due("points(0)", N, () -> x.points(0));
    Check.due("undo() of nothing", N, x::undo);
    Check.due("erase(), the text not being kept", 1, x::erase);
    undoOfEight();
    undoOfEach();
  }

  private static void undoOfEight() {
    DesignsOffice x = new DesignsOffice();
    for (int i = 1; i <= 20; i++) {
      x.blank(i % 6, i);
    }
    for (int i = 20; i > 12; i--) {
      int slot = i % 6;
      Check.due("undo() of blank(" + slot + ", " + i + ")", i - 13, x::undo);
      Check.due("points(" + slot + ") ahead of that", i - 6, () -> x.points(slot));
    }
    Check.due("undo() of what is forgotten", N, x::undo);
    Check.due("blank(0, 5)", 5, () -> x.blank(0, 5));
    Check.due("undo()", 0, x::undo);
    Check.due("points(0)", 12, () -> x.points(0));
  }

  /** Each call that changes a slot keeps what was there, and no other one keeps anything. */
  private static void undoOfEach() {
    DesignsOffice x = new DesignsOffice();
    x.bose(0, 0);
    x.field(0, 2, 1);
    x.primes(0, 3);
    Check.Call[] changes = {() -> x.blank(1, 1), () -> x.block(0, 1), () -> x.shift(0, 3, 1), () -> x.affine(0, 2),
        () -> x.projective(0, 2), () -> x.bose(0, 1), () -> x.skolem(0, 1), () -> x.product(0, 0, 0),
        () -> x.dual(0, 0), () -> x.part(0, 0, true, 0), () -> x.shifts(0, 4, 1, 1), () -> x.field(0, 4, 1),
        () -> x.setCell(0, 0, 0, 1), () -> x.turn(0, true, 5), () -> x.planeOf(1, 5), () -> x.doubled(0, 3),
        () -> x.primes(0, 7), () -> x.flip(0, false, 1), () -> x.designOf(0, 4), () -> {
          x.type('4');
          return x.read(0);
        }, () -> x.rest(4, 3)};
    x.designOf(0, 4);
    for (int i = 0; i < changes.length; i++) {
      long sum = x.checksum();
      Object answer = Check.answer(changes[i]);
      Check.same("the change " + i + " is made", true, answer instanceof Integer);
      Check.due("undo() of the change " + i, 4, x::undo);
      Check.due("checksum() after undo() of the change " + i, sum, x::checksum);
    }
  }

  private static void meanSize() {
    DesignsOffice x = new DesignsOffice();
    Check.due("meanSize(6)", I, () -> x.meanSize(6));
    Check.due("meanSize(-1)", I, () -> x.meanSize(-1));
    Check.due("meanSize(0) of none", N, () -> x.meanSize(0));
    x.blank(0, 31);
    Check.due("meanSize(0) without blocks", M, () -> x.meanSize(0));
    x.block(0, 7);
    Check.due("meanSize(0)", 3.0, () -> x.meanSize(0));
    x.block(0, 1);
    Check.due("meanSize(0)", 2.0, () -> x.meanSize(0));
    x.block(0, 1);
    Check.due("meanSize(0)", 5.0 / 3.0, () -> x.meanSize(0));
  }

  private static void pairShare() {
    DesignsOffice x = new DesignsOffice();
    Check.due("pairShare(6)", I, () -> x.pairShare(6));
    Check.due("pairShare(0) of none", N, () -> x.pairShare(0));
    x.blank(0, 1);
    Check.due("pairShare(0) of one point", M, () -> x.pairShare(0));
    x.blank(0, 2);
    Check.due("pairShare(0) without blocks", 0.0f, () -> x.pairShare(0));
    x.block(0, 3);
    x.block(0, 3);
    Check.due("pairShare(0)", 1.0f, () -> x.pairShare(0));
    x.blank(0, 31);
    x.block(0, 7 << 28);
    x.block(0, 1);
    Check.due("pairShare(0)", 3.0f / 465.0f, () -> x.pairShare(0));
  }

  private static void checksum() {
    DesignsOffice x = new DesignsOffice();
    long sum = 7;
    for (int i = 0; i < 15; i++) {
      sum *= 31;
    }
    Check.due("checksum() of nothing", sum, x::checksum);
    x.blank(1, 2);
    x.block(1, 3);
    x.shifts(0, 2, 1, 0);
    x.doubled(2, 1);
    x.type('z');
    int[] numbers = {0, 2, 3, 0, 0, 0, 0, 2, 0, 0, 1, 1, 0, 0, 0, 0, 0, 0, 0, 2, 1, 1, 1, -1, 'z'};
    long then = 7;
    for (int number : numbers) {
      then = 31 * then + number;
    }
    Check.due("checksum()", then, x::checksum);
    Check.due("checksum() again", then, x::checksum);
  }

  private static void isTrue() {
    DesignsOffice x = new DesignsOffice();
    Check.due("isTrue() of nothing", true, x::isTrue);
    x.projective(0, 4);
    x.affine(1, 3);
    x.blank(2, 3);
    for (int i = 0; i < 12; i++) {
      x.block(2, 1 << i % 3);
    }
    x.shift(3, 6, 5);
    for (int by = 1; by < 5; by++) {
      x.field(by, 5, by);
    }
    x.field(0, 5, 0);
    x.turn(1, true, 5);
    x.doubled(0, 4);
    x.doubled(1, 1);
    x.primes(2, 11);
    x.type('x');
    long sum = x.checksum();
    Check.due("isTrue()", true, x::isTrue);
    Check.due("checksum() after isTrue()", sum, x::checksum);
    Check.due("undo() after isTrue()", 7, x::undo);
    Check.due("more than 60 covers are no fault", U, () -> x.covers(2));
  }

  public static void main(String[] args) {
    Check.test("promise 49: type", TextTest::type);
    Check.test("promise 50: erase", TextTest::erase);
    Check.test("promise 51: read", TextTest::read);
    Check.test("promise 51: faults of read", TextTest::readFaults);
    Check.test("promise 52: undo", TextTest::undo);
    Check.test("promise 53: meanSize", TextTest::meanSize);
    Check.test("promise 54: pairShare", TextTest::pairShare);
    Check.test("promise 55: checksum", TextTest::checksum);
    Check.test("promise 56: isTrue", TextTest::isTrue);
    Check.end();
  }
}
