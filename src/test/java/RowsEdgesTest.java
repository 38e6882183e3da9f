/** Promises 38 to 48: the boundary cases of rows of signs, of days and of settings. */
final class RowsEdgesTest {
  private static final String I = "IndexOutOfBoundsException";
  private static final String N = "NoSuchElementException";
  private static final String A = "IllegalArgumentException";
  private static final String U = "UnsupportedOperationException";
  private static final int[] LEVELS = {2, 3, 4, 5, 7, 8, 9};
  private static final int[] NO_LEVELS = {-2, 0, 1, 6, 10, 11, 16, 25};

  private RowsEdgesTest() {
  }

  /** The slots 0 and 2 hold four rows. */
  private static void atBothEnds(Edge x) {
    x.takes("doubled", 0, 2);
    x.takes("doubled", 2, 2);
  }

  private static void doubled() {
    Edge.test("38 doubled: the slot, 0 to 2", x -> x.slots(0, 3, "doubled", 0, 1));
    Edge.test("38 doubled: no slots 3, 4 and 5 of rows", x -> {
      for (int slot = 3; slot < 6; slot++) {
        x.refuses(I, "doubled", slot, 1);
      }
    });
    Edge.test("38 doubled: how many times, 0 to 4", x -> x.between(A, 1, 0, 4, "doubled", 0, 0));
    Edge.test("38 doubled: 0 times, one row of one 1", x -> {
      x.gives(1, "doubled", 0, 0);
      x.gives(1, "sign", 0, 0, 0);
      x.refuses(N, "sign", 0, 0, 1);
      x.refuses(N, "sign", 0, 1, 0);
    });
    Edge.test("38 doubled: once, -1 at the last place alone", x -> {
      x.gives(2, "doubled", 0, 1);
      x.gives(1, "sign", 0, 0, 0);
      x.gives(1, "sign", 0, 0, 1);
      x.gives(1, "sign", 0, 1, 0);
      x.gives(-1, "sign", 0, 1, 1);
    });
    Edge.test("38 doubled: 4 times, 16 rows", x -> {
      x.gives(16, "doubled", 0, 4);
      x.gives(1, "sign", 0, 0, 15);
      x.gives(1, "sign", 0, 15, 0);
      x.gives(1, "sign", 0, 15, 15);
      x.gives(-1, "sign", 0, 8, 15);
      x.gives(1, "sign", 0, 7, 8);
      x.refuses(N, "sign", 0, 16, 0);
    });
    Edge.test("38 doubled: fewer rows where more were", x -> {
      x.takes("primes", 0, 23);
      x.gives(1, "doubled", 0, 0);
      x.refuses(N, "sign", 0, 1, 1);
    });
    Edge.test("38 doubled: no such slot ahead of what is out of range", x -> {
      x.refuses(I, "doubled", 3, 5);
      x.refuses(I, "doubled", -1, -1);
    });
  }

  private static void primes() {
    Edge.test("39 primes: the slot, 0 to 2", x -> x.slots(0, 3, "primes", 0, 3));
    Edge.test("39 primes: 3, 7, 11, 19 and 23", x -> {
      x.between(A, 1, 3, 23, "primes", 0, 0);
      for (int prime : new int[] {3, 7, 11, 19, 23}) {
        x.gives(prime + 1, "primes", 0, prime);
        x.gives(true, "areRowsApart", 0);
      }
    });
    Edge.test("39 primes: no other number, prime or not", x -> {
      for (int number = -3; number < 33; number++) {
        if (number != 3 && number != 7 && number != 11 && number != 19 && number != 23) {
          x.refuses(A, "primes", 0, number);
        }
      }
    });
    Edge.test("39 primes: the fewest rows", x -> {
      x.gives(4, "primes", 0, 3);
      int[][] want = {{1, 1, 1, 1}, {1, -1, -1, 1}, {1, 1, -1, -1}, {1, -1, 1, -1}};
      for (int i = 0; i < 16; i++) {
        x.gives(want[i / 4][i % 4], "sign", 0, i / 4, i % 4);
      }
    });
    Edge.test("39 primes: the most rows, at their ends", x -> {
      x.gives(24, "primes", 2, 23);
      x.gives(1, "sign", 2, 0, 23);
      x.gives(1, "sign", 2, 23, 0);
      x.gives(-1, "sign", 2, 23, 23);
      // 0 less 22 is 1 modulo 23, a square; 22 less 0 is none.
      x.gives(-1, "sign", 2, 23, 1);
      x.gives(1, "sign", 2, 1, 23);
      x.refuses(N, "sign", 2, 24, 0);
    });
    Edge.test("39 primes: no such slot ahead of no such prime", x -> {
      x.refuses(I, "primes", 3, 4);
      x.refuses(I, "primes", -1, 5);
    });
  }

  private static void sign() {
    Edge.test("40 sign: the slot, 0 to 2", x -> {
      atBothEnds(x);
      x.slots(0, 3, "sign", 0, 1, 1);
    });
    Edge.test("40 sign: a slot that holds no rows of signs", x -> x.empty(0, 3, "sign", 0, 0, 0));
    Edge.test("40 sign: a slot of designs, or of tables, holds no rows", x -> {
      x.takes("blank", 0, 3);
      x.takes("shifts", 0, 3, 1, 1);
      x.refuses(N, "sign", 0, 0, 0);
    });
    Edge.test("40 sign: the row, from 0 to the last one", x -> {
      x.takes("doubled", 0, 1);
      x.between(N, 1, 0, 1, "sign", 0, 0, 1);
      x.takes("primes", 0, 23);
      x.between(N, 1, 0, 23, "sign", 0, 0, 1);
    });
    Edge.test("40 sign: the column, from 0 to the last one", x -> {
      x.takes("doubled", 0, 1);
      x.between(N, 2, 0, 1, "sign", 0, 1, 0);
      x.takes("primes", 0, 23);
      x.between(N, 2, 0, 23, "sign", 0, 1, 0);
      x.refuses(N, "sign", 0, 1, 32);
    });
    Edge.test("40 sign: no such slot ahead of no such place", x -> {
      x.refuses(I, "sign", 3, -1, 0);
      x.refuses(I, "sign", -1, 0, 24);
    });
  }

  private static void flip() {
    Edge.test("41 flip: the slot, 0 to 2", x -> {
      atBothEnds(x);
      x.slots(0, 3, "flip", 0, true, 1);
      x.slots(0, 3, "flip", 0, false, 1);
    });
    Edge.test("41 flip: a slot that holds no rows of signs", x -> {
      x.empty(0, 3, "flip", 0, true, 0);
      x.empty(0, 3, "flip", 0, false, 0);
    });
    Edge.test("41 flip: the row, from 0 to the last one", x -> {
      x.takes("doubled", 0, 1);
      x.between(N, 2, 0, 1, "flip", 0, true, 0);
      x.takes("primes", 0, 23);
      x.between(N, 2, 0, 23, "flip", 0, true, 0);
    });
    Edge.test("41 flip: the column, from 0 to the last one", x -> {
      x.takes("doubled", 0, 1);
      x.between(N, 2, 0, 1, "flip", 0, false, 0);
      x.takes("primes", 0, 23);
      x.between(N, 2, 0, 23, "flip", 0, false, 0);
      x.refuses(N, "flip", 0, false, 32);
    });
    Edge.test("41 flip: the one sign of one row", x -> {
      x.takes("doubled", 0, 0);
      x.gives(0, "flip", 0, true, 0);
      x.gives(-1, "sign", 0, 0, 0);
      x.gives(1, "flip", 0, false, 0);
      x.gives(1, "sign", 0, 0, 0);
    });
    Edge.test("41 flip: all signs of a row are 1, and none is then", x -> {
      x.takes("primes", 0, 23);
      x.gives(0, "flip", 0, true, 0);
      x.gives(24, "flip", 0, true, 0);
    });
    Edge.test("41 flip: all signs of a column are 1, and none is then", x -> {
      x.takes("doubled", 0, 4);
      x.gives(0, "flip", 0, false, 0);
      x.gives(16, "flip", 0, false, 0);
    });
    Edge.test("41 flip: the last row, and the last column, alone", x -> {
      x.takes("primes", 0, 3);
      x.gives(2, "flip", 0, true, 3);
      x.gives(-1, "sign", 0, 3, 0);
      x.gives(1, "sign", 0, 2, 0);
      x.gives(1, "flip", 0, false, 3);
      x.gives(-1, "sign", 0, 0, 3);
      x.gives(1, "sign", 0, 0, 2);
      x.gives(-1, "sign", 0, 3, 3);
    });
    Edge.test("41 flip: no such slot ahead of no such row or column", x -> {
      x.refuses(I, "flip", 3, true, -1);
      x.refuses(I, "flip", -1, false, 24);
    });
  }

  private static void areRowsApart() {
    Edge.test("42 areRowsApart: the slot, 0 to 2", x -> {
      atBothEnds(x);
      x.slots(0, 3, "areRowsApart", 0);
    });
    Edge.test("42 areRowsApart: a slot that holds no rows of signs", x -> x.empty(0, 3, "areRowsApart", 0));
    Edge.test("42 areRowsApart: one row, there being no two", x -> {
      x.takes("doubled", 0, 0);
      x.gives(true, "areRowsApart", 0);
    });
    Edge.test("42 areRowsApart: two rows, the fewest that can be", x -> {
      x.takes("doubled", 0, 1);
      x.gives(true, "areRowsApart", 0);
      x.takes("flip", 0, true, 0);
      x.takes("flip", 0, false, 0);
      x.gives(true, "areRowsApart", 0);
    });
    Edge.test("42 areRowsApart: 24 rows, the most, also if all are changed", x -> {
      x.takes("primes", 0, 23);
      for (int i = 0; i < 24; i += 2) {
        x.takes("flip", 0, true, i);
        x.takes("flip", 0, false, i + 1);
      }
      x.gives(true, "areRowsApart", 0);
    });
  }

  private static void designOf() {
    Edge.test("43 designOf: the slot of the rows, 0 to 2", x -> {
      atBothEnds(x);
      x.slots(0, 3, "designOf", 0, 0);
    });
    Edge.test("43 designOf: the slot of designs, 0 to 5", x -> {
      x.takes("doubled", 0, 2);
      x.slots(1, 6, "designOf", 0, 0);
    });
    Edge.test("43 designOf: a slot that holds no rows of signs", x -> x.empty(0, 3, "designOf", 0, 0));
    Edge.test("43 designOf: fewer than 4 rows, and 4", x -> {
      x.takes("doubled", 0, 0);
      x.refuses(U, "designOf", 0, 0);
      x.takes("doubled", 0, 1);
      x.refuses(U, "designOf", 0, 0);
      x.takes("doubled", 0, 2);
      x.gives(3, "designOf", 0, 0);
      x.blocksAre(0, 2, 1, 4);
      x.gives(3, "points", 0);
    });
    Edge.test("43 designOf: 24 rows", x -> {
      x.takes("primes", 0, 23);
      x.gives(23, "designOf", 0, 5);
      x.gives(23, "points", 5);
      x.gives(11, "meets", 5, 22, 22);
      x.gives(true, "isEven", 5);
    });
    designOfWithoutPoints();
    Edge.test("43 designOf: what is documented first is thrown", x -> {
      x.takes("doubled", 0, 0);
      x.refuses(I, "designOf", 3, 0);
      x.refuses(I, "designOf", 1, 6);
      x.refuses(I, "designOf", 0, -1);
      x.refuses(N, "designOf", 1, 0);
    });
  }

  private static void designOfWithoutPoints() {
    Edge.test("43 designOf: the first block would have no points", x -> {
      // The row 1, which is 1 -1 1 -1, becomes 1 -1 -1 -1.
      x.takes("doubled", 0, 2);
      x.takes("flip", 0, false, 2);
      x.refuses(U, "designOf", 0, 0);
    });
    Edge.test("43 designOf: the last block would have no points", x -> {
      // The row 3, which is 1 -1 -1 1, becomes 1 -1 -1 -1.
      x.takes("doubled", 0, 2);
      x.takes("flip", 0, false, 3);
      x.refuses(U, "designOf", 0, 0);
    });
    Edge.test("43 designOf: the row 0 without points is no block", x -> {
      x.takes("doubled", 0, 2);
      x.takes("flip", 0, false, 0);
      // All rows but the row 0 have the sign of their column 0 at two other columns then.
      x.gives(3, "designOf", 0, 0);
      x.blocksAre(0, 5, 6, 3);
    });
    Edge.test("43 designOf: a row changed as a whole has the same block", x -> {
      x.takes("doubled", 0, 2);
      x.takes("flip", 0, true, 3);
      x.gives(3, "designOf", 0, 0);
      x.blocksAre(0, 2, 1, 4);
    });
  }

  private static void days() {
    for (String name : new String[] {"plays", "isHome"}) {
      String number = name.equals("plays") ? "44 " : "45 ";
      Edge.test(number + name + ": the teams, 2 to 20", x -> {
        x.between(A, 0, 2, 20, name, 0, 0, 0);
        x.refuses(A, name, 0, 0, 0);
        x.refuses(A, name, 22, 0, 0);
        x.refuses(A, name, -2, 0, 0);
        x.refuses(A, name, -2, -4, -3);
      });
      Edge.test(number + name + ": the teams, an even number", x -> {
        for (int teams = 1; teams < 22; teams += 2) {
          x.refuses(A, name, teams, 0, 0);
        }
      });
      Edge.test(number + name + ": the round, 0 to the teams less 2", x -> {
        x.between(A, 1, 0, 0, name, 2, 0, 0);
        x.between(A, 1, 0, 2, name, 4, 0, 0);
        x.between(A, 1, 0, 18, name, 20, 0, 0);
      });
      Edge.test(number + name + ": the team, from 0 to the last one", x -> {
        x.between(A, 2, 0, 1, name, 2, 0, 0);
        x.between(A, 2, 0, 3, name, 4, 0, 0);
        x.between(A, 2, 0, 19, name, 20, 0, 0);
      });
    }
    plays();
    isHome();
    breaks();
  }

  private static void plays() {
    Edge.test("44 plays: the one game of two teams", x -> {
      x.gives(1, "plays", 2, 0, 0);
      x.gives(0, "plays", 2, 0, 1);
    });
    Edge.test("44 plays: the sum going round", x -> {
      // 18 and 1 are 0 modulo 19; 18 and 18 are 17, so that 18 meets the last team then.
      x.gives(1, "plays", 20, 0, 18);
      x.gives(18, "plays", 20, 0, 1);
      x.gives(19, "plays", 20, 17, 18);
      x.gives(18, "plays", 20, 17, 19);
    });
    Edge.test("44 plays: the last team, in the first round and in the last one", x -> {
      x.gives(0, "plays", 20, 0, 19);
      x.gives(19, "plays", 20, 0, 0);
      x.gives(9, "plays", 20, 18, 19);
      x.gives(19, "plays", 20, 18, 9);
    });
    Edge.test("44 plays: on each day all play, and all meet once", x -> {
      boolean[] met = new boolean[36];
      for (int round = 0; round < 5; round++) {
        for (int team = 0; team < 6; team++) {
          int other = (Integer) x.answer("plays", 6, round, team);
          x.gives(team, "plays", 6, round, other);
          Check.same("a game of the same two", false, met[6 * team + other]);
          met[6 * team + other] = true;
        }
      }
    });
  }

  private static void isHome() {
    Edge.test("45 isHome: the one game of two teams", x -> {
      x.gives(false, "isHome", 2, 0, 0);
      x.gives(true, "isHome", 2, 0, 1);
    });
    Edge.test("45 isHome: the last team, in even rounds, 0 being one", x -> {
      x.gives(true, "isHome", 20, 0, 19);
      x.gives(false, "isHome", 20, 0, 0);
      x.gives(false, "isHome", 20, 17, 19);
      x.gives(true, "isHome", 20, 17, 18);
      x.gives(true, "isHome", 20, 18, 19);
      x.gives(false, "isHome", 20, 18, 9);
    });
    Edge.test("45 isHome: the lesser one, if their difference is odd, else the greater one", x -> {
      // 1 and 18 in the round 0; 0 and 18 in the round 18.
      x.gives(true, "isHome", 20, 0, 1);
      x.gives(false, "isHome", 20, 0, 18);
      x.gives(false, "isHome", 20, 18, 0);
      x.gives(true, "isHome", 20, 18, 18);
    });
  }

  private static void breaks() {
    Edge.test("46 breaks: the teams, 2 to 20", x -> {
      x.between(A, 0, 2, 20, "breaks", 0);
      x.refuses(A, "breaks", 0);
      x.refuses(A, "breaks", -2);
      x.refuses(A, "breaks", 22);
    });
    Edge.test("46 breaks: the teams, an even number", x -> {
      for (int teams = -1; teams < 22; teams += 2) {
        x.refuses(A, "breaks", teams);
      }
    });
    Edge.test("46 breaks: two teams play in one round alone", x -> x.gives(0, "breaks", 2));
    Edge.test("46 breaks: four teams, and 20", x -> {
      x.gives(2, "breaks", 4);
      x.gives(18, "breaks", 20);
    });
  }

  private static void setting() {
    Edge.test("47 setting: the levels, 2, 3, 4, 5, 7, 8 or 9", x -> {
      x.between(A, 0, 2, 9, "setting", 0, 0, 0);
      for (int levels : LEVELS) {
        x.gives(levels - 1, "setting", levels, levels - 1, 0);
      }
      for (int levels : NO_LEVELS) {
        x.refuses(A, "setting", levels, 0, 0);
      }
    });
    Edge.test("47 setting: the row, 0 to levels times levels, less 1", x -> {
      for (int levels : LEVELS) {
        x.between(A, 1, 0, levels * levels - 1, "setting", levels, 0, 0);
      }
    });
    Edge.test("47 setting: the factor, 0 to levels", x -> {
      for (int levels : LEVELS) {
        x.between(A, 2, 0, levels, "setting", levels, 0, 0);
      }
    });
    Edge.test("47 setting: a for the factor levels, at the first row and at the last one", x -> {
      x.gives(0, "setting", 9, 0, 9);
      x.gives(0, "setting", 9, 8, 9);
      x.gives(1, "setting", 9, 9, 9);
      x.gives(8, "setting", 9, 80, 9);
      x.gives(1, "setting", 2, 3, 2);
    });
    Edge.test("47 setting: in the field of the levels, at the greatest numbers", x -> {
      x.gives(0, "setting", 2, 3, 1);
      x.gives(0, "setting", 7, 48, 6);
      x.gives(1, "setting", 4, 15, 3);
      x.gives(4, "setting", 8, 63, 7);
      x.gives(5, "setting", 9, 80, 8);
    });
  }

  private static void unmet() {
    Edge.test("48 unmet: the levels, 2, 3, 4, 5, 7, 8 or 9", x -> {
      x.between(A, 0, 2, 9, "unmet", 0, 2, 0);
      for (int levels : LEVELS) {
        x.gives(levels * levels, "unmet", levels, 2, 0);
      }
      for (int levels : NO_LEVELS) {
        x.refuses(A, "unmet", levels, 2, 0);
      }
    });
    Edge.test("48 unmet: how many factors, 2 to levels and 1", x -> {
      for (int levels : LEVELS) {
        x.between(A, 1, 2, levels + 1, "unmet", levels, 0, 0);
      }
    });
    Edge.test("48 unmet: how many rows, 0 to levels times levels", x -> {
      for (int levels : LEVELS) {
        x.between(A, 2, 0, levels * levels, "unmet", levels, 2, 0);
      }
    });
    Edge.test("48 unmet: without rows no pair comes", x -> {
      x.gives(4, "unmet", 2, 2, 0);
      x.gives(12, "unmet", 2, 3, 0);
      x.gives(3645, "unmet", 9, 10, 0);
    });
    Edge.test("48 unmet: in the first levels times levels rows each pair comes", x -> {
      for (int levels : LEVELS) {
        x.gives(0, "unmet", levels, 2, levels * levels);
        x.gives(0, "unmet", levels, levels + 1, levels * levels);
      }
    });
    Edge.test("48 unmet: without the last row one pair of each two factors does not", x -> {
      x.gives(1, "unmet", 2, 2, 3);
      x.gives(45, "unmet", 9, 10, 80);
    });
    Edge.test("48 unmet: in the first row one pair of each two factors comes", x -> {
      x.gives(3, "unmet", 2, 2, 1);
      x.gives(3600, "unmet", 9, 10, 1);
    });
  }

  public static void main(String[] args) {
    doubled();
    primes();
    sign();
    flip();
    areRowsApart();
    designOf();
    days();
    setting();
    unmet();
    Check.end();
  }
}
