/** Promises 49 to 51: the boundary cases of the text. */
final class TextEdgesTest {
  private static final String I = "IndexOutOfBoundsException";
  private static final String N = "NoSuchElementException";
  private static final String A = "IllegalArgumentException";
  private static final String S = "IllegalStateException";
  private static final int ALL = Integer.MAX_VALUE;

  private TextEdgesTest() {
  }

  private static String times(int times, String text) {
    StringBuilder all = new StringBuilder();
    for (int i = 0; i < times; i++) {
      all.append(text);
    }
    return all.toString();
  }

  private static void type() {
    Edge.test("49 type: a code of 32 to 126: the least one, and the one below", x -> {
      x.refuses(A, "type", (char) 31);
      x.gives(1, "type", (char) 32);
    });
    Edge.test("49 type: a code of 32 to 126: the greatest one, and the one above", x -> {
      x.refuses(A, "type", (char) 127);
      x.gives(1, "type", (char) 126);
    });
    Edge.test("49 type: codes far off, and such as are 48 modulo 128 or 256", x -> {
      for (int code : new int[] {0, 9, 10, 13, 128, 160, 176, 255, 256, 304, 32768 + 48, 65535}) {
        x.refuses(A, "type", (char) code);
      }
    });
    Edge.test("49 type: each code of 32 to 126", x -> {
      for (int code = 32; code < 127; code++) {
        x.gives(code - 31, "type", (char) code);
      }
    });
    Edge.test("49 type: the 120th sign is the last one", x -> {
      x.types(times(119, "1"));
      x.gives(120, "type", '2');
      x.refuses(S, "type", '3');
      x.gives(120, "erase");
    });
    Edge.test("49 type: of 120 signs, when they are erased, there is room for 120", x -> {
      x.types(times(120, "1"));
      x.refuses(S, "type", '3');
      x.takes("erase");
      x.gives(1, "type", '3');
      x.types(times(119, "1"));
      x.refuses(S, "type", '3');
    });
    Edge.test("49 type: of 120 signs, when they are read, there is room", x -> {
      x.types(times(120, "1"));
      x.gives(-1, "read", 0);
      x.gives(1, "type", '3');
    });
    Edge.test("49 type: a code that is none ahead of a full text", x -> {
      x.types(times(120, "1"));
      x.refuses(A, "type", (char) 31);
      x.refuses(A, "type", (char) 127);
      x.refuses(S, "type", (char) 32);
    });
  }

  private static void erase() {
    Edge.test("50 erase: an empty text", x -> {
      x.gives(0, "erase");
      x.gives(0, "erase");
    });
    Edge.test("50 erase: a text of one sign", x -> {
      x.types(" ");
      x.gives(1, "erase");
      x.gives(0, "erase");
    });
    Edge.test("50 erase: a full text", x -> {
      x.types(times(120, "~"));
      x.gives(120, "erase");
      x.gives(0, "erase");
    });
    Edge.test("50 erase: what is typed then begins anew", x -> {
      x.types("31:0,1,2");
      x.gives(8, "erase");
      x.reads(0, "2", 0);
      x.gives(2, "points", 0);
    });
  }

  private static void right(int blocks, int points, String sentence, String text) {
    Edge.test("51 read: " + sentence, x -> {
      x.reads(blocks, text, 3);
      x.gives(points, "points", 3);
      x.gives(blocks, "blocks", 3);
      x.gives(0, "undo");
      x.refuses(N, "points", 3);
    });
  }

  /** The design that the slot holds stays, nothing is kept, and the text is gone. */
  private static void fault(int place, String sentence, String text) {
    Edge.test("51 read, fault: " + sentence, x -> {
      x.design(3, 5, 9);
      long sum = x.checksum();
      x.reads(-1 - place, text, 3);
      Check.same("checksum() behind the fault of " + text, sum, x.checksum());
      x.gives(1, "undo");
    });
    Edge.test("51 read, fault, none being held: " + sentence, x -> {
      x.reads(-1 - place, text, 0);
      x.refuses(N, "points", 0);
      x.refuses(N, "undo");
    });
  }

  private static void readSlots() {
    Edge.test("51 read: the slot, 0 to 5", x -> {
      x.types("3:0");
      for (int slot : new int[] {-1, 6, Integer.MIN_VALUE, Integer.MAX_VALUE}) {
        x.refuses(I, "read", slot);
      }
      x.gives(1, "read", 0);
      x.reads(1, "3:1", 5);
      x.blocksAre(0, 1);
      x.blocksAre(5, 2);
    });
    Edge.test("51 read: no such slot, and the text stays, also at a fault", x -> {
      x.types("0");
      x.refuses(I, "read", 6);
      x.refuses(I, "read", -1);
      x.gives(1, "erase");
    });
    Edge.test("51 read: the text is taken away, read or not", x -> {
      x.types("3:0");
      x.gives(1, "read", 0);
      x.gives(-1, "read", 0);
      x.types("3:x");
      x.gives(-3, "read", 0);
      x.gives(-1, "read", 0);
      x.blocksAre(0, 1);
    });
  }

  private static void rightTexts() {
    right(0, 1, "the fewest points, and no blocks", "1");
    right(0, 31, "the most points, and no blocks", "31");
    right(1, 1, "the one point of one", "1:0");
    right(1, 31, "the last point of 31", "31:30");
    right(1, 31, "all points of 31",
        "31:30,29,28,27,26,25,24,23,22,21,20,19,18,17,16,15,14,13,12,11,10,9,8,7,6,5,4,3,2,1,0");
    right(59, 31, "a full text, of the most blocks", "31:0" + times(58, ";0"));
    right(59, 1, "blocks that are alike", "1:0" + times(58, ";0"));
    right(0, 31, "a number with digits 0 ahead of it", "031");
    right(0, 1, "a number of 120 digits", times(119, "0") + "1");
    right(1, 3, "a point with digits 0 ahead of it", "3:" + times(117, "0") + "2");
    right(2, 3, "a point in another block again", "3:1;1");
    Edge.test("51 read: the points of the blocks, in any order", x -> {
      x.reads(3, "31:30,0;29;0", 0);
      x.blocksAre(0, 1 << 30 | 1, 1 << 29, 1);
      x.reads(1, "31:30,29,28,27,26,25,24,23,22,21,20,19,18,17,16,15,14,13,12,11,10,9,8,7,6,5,4,3,2,1,0", 0);
      x.blocksAre(0, ALL);
    });
    Edge.test("51 read: a design without blocks where blocks were", x -> {
      x.design(0, 3, 1, 2);
      x.reads(0, "2", 0);
      x.blocksAre(0);
      x.gives(2, "points", 0);
    });
  }

  private static void faultsOfNumbers() {
    fault(0, "not 1 to 31: 0", "0");
    fault(0, "not 1 to 31: 32", "32");
    fault(0, "not 1 to 31: 0, with digits 0 ahead of it", "000");
    fault(0, "not 1 to 31: 032", "032");
    fault(0, "not 1 to 31: 1 and 2 to the 32nd", "4294967297");
    fault(0, "not 1 to 31: 31 and 2 to the 32nd", "4294967327:0");
    fault(0, "not 1 to 31: 1 and 2 to the 64th", "18446744073709551617");
    fault(0, "not 1 to 31: 120 digits", times(120, "9"));
    fault(2, "no point: that just behind the last one", "3:3");
    fault(2, "no point: 1 of one", "1:1");
    fault(3, "no point: 31 of 31", "31:31");
    fault(3, "no point: 32 of 31", "31:32");
    fault(4, "no point: the second one of a block", "3:0,3");
    fault(4, "no point: that of a second block", "3:0;3");
    fault(2, "no point: 2 to the 32nd", "3:4294967296");
    fault(2, "no point: 2 to the 64th", "3:18446744073709551616");
    fault(2, "no point: the first digit of 003", "3:003");
    fault(4, "in its block already", "3:1,1");
    fault(4, "in its block already: the point 0", "3:0,0");
    fault(4, "in its block already: 001", "3:1,001");
    fault(6, "in its block already: behind another one", "3:1,0,1");
    fault(8, "in its block already: in the second block", "3:1;0,2,0");
    fault(6, "in its block already: the point 30", "31:30,30");
  }

  private static void faultsOfSigns() {
    fault(0, "a sign that cannot stand ahead of all", "x3");
    fault(0, "a space ahead of all", " 3");
    fault(0, "a sign of a number below 0", "-1");
    fault(0, "'/', the sign just below '0'", "/");
    fault(0, "':', the sign just above '9'", ":");
    fault(1, "a sign behind the points that is not ':'", "3;0");
    fault(1, "',' behind the points", "3,0");
    fault(1, "a space behind the points", "3 ");
    fault(1, "'/' behind the points", "3/");
    fault(2, "two ':'", "3::0");
    fault(2, "';' where a point must stand", "3:;0");
    fault(2, "',' where a point must stand", "3:,0");
    fault(2, "'~' where a point must stand", "3:~");
    fault(3, "':' behind a point", "3:0:1");
    fault(3, "a space behind a point", "3:0 ");
    fault(3, "'/' behind a point", "3:0/1");
    fault(4, "two ',' behind each other", "3:0,,1");
    fault(4, "two ';' behind each other", "3:0;;1");
    fault(4, "';' behind ','", "3:0,;1");
    fault(4, "',' behind ';'", "3:0;,1");
    fault(119, "the last sign of a full text", "31:0" + times(57, ";0") + ";:");
  }

  private static void faultsAtTheEnd() {
    fault(0, "the length of the text: empty", "");
    fault(2, "the length of the text: behind ':'", "3:");
    fault(4, "the length of the text: behind ','", "3:0,");
    fault(4, "the length of the text: behind ';'", "3:0;");
    fault(120, "the length of the text: a full one, behind ';'", "1:0" + times(57, ";0") + ";0;");
    fault(120, "the length of the text: a full one, behind ':'", times(118, "0") + "1:");
  }

  private static void faultsThatAreAhead() {
    fault(0, "whichever is ahead: the number of points, then a sign", "32x");
    fault(0, "whichever is ahead: no points, then the end", "0:");
    fault(2, "whichever is ahead: no point, then a sign", "3:9x");
    fault(2, "whichever is ahead: a sign, then no point", "3:x9");
    fault(3, "whichever is ahead: a sign, then no point in the same block", "3:0 ,9");
    fault(4, "whichever is ahead: in its block already, then no point", "3:0,0,9");
    fault(4, "whichever is ahead: no point, then in its block already", "3:0,9,0");
    fault(4, "whichever is ahead: no point, then the end", "3:0,9,");
    fault(1, "whichever is ahead: a sign behind the points, then no point", "3x:9");
  }

  public static void main(String[] args) {
    type();
    erase();
    readSlots();
    rightTexts();
    faultsOfNumbers();
    faultsOfSigns();
    faultsAtTheEnd();
    faultsThatAreAhead();
    Check.end();
  }
}
