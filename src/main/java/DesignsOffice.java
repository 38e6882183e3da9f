import java.util.NoSuchElementException;

/**
 * An office of designs, tables, rows of signs, days and settings. What each call answers is told, promise by
 * promise, in the document of the project; README.md says how the class is put together.
 *
 * <p>Nothing is made after the constructor has ended: each call that lets a slot become something builds it in one of
 * the spare places (newDesign, newTable, newRows) and copies it into the slot only when nothing can be refused any
 * more, so that a call that throws changes nothing, and a slot can become what is made of itself.
 */
public final class DesignsOffice {
  private static final int DESIGN_SLOTS = 6;
  private static final int TABLE_SLOTS = 6;
  private static final int ROWS_SLOTS = 3;
  private static final int MOST_POINTS = 31;
  private static final int MOST_BLOCKS = 160;
  private static final int MOST_ORDER = 9;
  private static final int MOST_ROWS = 24;
  private static final int MOST_SIGNS = 120;
  private static final int MOST_KEPT = 8;
  private static final int MOST_COVERS = 60;
  private static final int MOST_COVERED_BLOCKS = 40;
  private static final int MOST_PARTED_BLOCKS = 14;
  private static final int MOST_CHECKED_BLOCKS = 12;
  private static final int MOST_WAYS_POINTS = 7;
  private static final int MOST_TRANSVERSAL_ORDER = 7;
  private static final int MOST_PLANE_ORDER = 5;
  private static final int MOST_NUMBER = 100000;

  private static final int OF_DESIGNS = 0;
  private static final int OF_TABLES = 1;
  private static final int OF_ROWS = 2;

  /** No sign of a text has this code. */
  private static final char NO_SIGN = 0;

  /** All orders of three places, one behind the other, the lesser place first where two of them differ. */
  private static final int[] ORDERS_OF_THREE = {0, 1, 2, 0, 2, 1, 1, 0, 2, 1, 2, 0, 2, 0, 1, 2, 1, 0};

  private final Design[] designs = new Design[DESIGN_SLOTS];
  private final Table[] tables = new Table[TABLE_SLOTS];
  private final SignRows[] rows = new SignRows[ROWS_SLOTS];
  private final Design newDesign = new Design();
  private final Table newTable = new Table();
  private final SignRows newRows = new SignRows();
  private final CoverSearch coverSearch = new CoverSearch();
  private final WaySearch waySearch = new WaySearch();
  private final int[] apartSlots = new int[TABLE_SLOTS];
  private final Kept[] past = new Kept[MOST_KEPT];
  private int pastNext = 0;
  private int pastCount = 0;
  private final char[] text = new char[MOST_SIGNS];
  private int textLength = 0;

  public DesignsOffice() {
    for (int i = 0; i < DESIGN_SLOTS; i++) {
      designs[i] = new Design();
    }
    for (int i = 0; i < TABLE_SLOTS; i++) {
      tables[i] = new Table();
    }
    for (int i = 0; i < ROWS_SLOTS; i++) {
      rows[i] = new SignRows();
    }
    for (int i = 0; i < MOST_KEPT; i++) {
      past[i] = new Kept();
    }
  }

  // ---- designs

  public int blank(int slot, int points) throws IndexOutOfBoundsException, IllegalArgumentException {
    checkDesignSlot(slot);
    if (points < 1 || points > MOST_POINTS) {
      throw new IllegalArgumentException();
    }
    newDesign.begin(points);
    becomeDesign(slot);
    return points;
  }

  public int block(int slot, int bits)
      throws IndexOutOfBoundsException, NoSuchElementException, IllegalArgumentException, IllegalStateException {
    Design design = heldDesign(slot);
    if (bits == 0 || (bits & ~design.allPoints()) != 0) {
      throw new IllegalArgumentException();
    }
    if (design.count >= MOST_BLOCKS) {
      throw new IllegalStateException();
    }
    keep(OF_DESIGNS, slot);
    design.add(bits);
    return design.count - 1;
  }

  public int shift(int slot, int points, int bits) throws IndexOutOfBoundsException, IllegalArgumentException {
    checkDesignSlot(slot);
    if (points < 1 || points > MOST_POINTS || bits == 0 || (bits & ~lowBits(points)) != 0) {
      throw new IllegalArgumentException();
    }
    newDesign.makeShift(points, bits);
    return becomeDesign(slot);
  }

  public int affine(int slot, int order) throws IndexOutOfBoundsException, IllegalArgumentException {
    checkDesignSlot(slot);
    if (order < 2 || order > MOST_PLANE_ORDER) {
      throw new IllegalArgumentException();
    }
    newDesign.makePlane(order, true);
    return becomeDesign(slot);
  }

  public int projective(int slot, int order) throws IndexOutOfBoundsException, IllegalArgumentException {
    checkDesignSlot(slot);
    if (order < 2 || order > MOST_PLANE_ORDER) {
      throw new IllegalArgumentException();
    }
    newDesign.makePlane(order, false);
    return becomeDesign(slot);
  }

  public int bose(int slot, int t) throws IndexOutOfBoundsException, IllegalArgumentException {
    checkDesignSlot(slot);
    if (t < 0 || t > 4) {
      throw new IllegalArgumentException();
    }
    newDesign.makeBose(t);
    return becomeDesign(slot);
  }

  public int skolem(int slot, int t) throws IndexOutOfBoundsException, IllegalArgumentException {
    checkDesignSlot(slot);
    if (t < 1 || t > 5) {
      throw new IllegalArgumentException();
    }
    newDesign.makeSkolem(t);
    return becomeDesign(slot);
  }

  public int product(int one, int other, int to)
      throws IndexOutOfBoundsException, NoSuchElementException, UnsupportedOperationException {
    checkDesignSlot(one);
    checkDesignSlot(other);
    checkDesignSlot(to);
    Design first = heldDesign(one);
    Design second = heldDesign(other);
    int count = first.size * second.count + second.size * first.count + 6 * first.count * second.count;
    if (!first.isOfTriples() || !second.isOfTriples() || first.size * second.size > MOST_POINTS
        || count > MOST_BLOCKS) {
      throw new UnsupportedOperationException();
    }
    newDesign.makeProduct(first, second);
    return becomeDesign(to);
  }

  public int points(int slot) throws IndexOutOfBoundsException, NoSuchElementException {
    return heldDesign(slot).size;
  }

  public int blocks(int slot) throws IndexOutOfBoundsException, NoSuchElementException {
    return heldDesign(slot).count;
  }

  public int bitsOf(int slot, int block) throws IndexOutOfBoundsException, NoSuchElementException {
    return heldBlock(slot, block);
  }

  public int often(int slot, int point) throws IndexOutOfBoundsException, NoSuchElementException {
    Design design = heldDesign(slot);
    return design.countWith(bitOfPoint(design, point));
  }

  public int pairs(int slot, int point, int other) throws IndexOutOfBoundsException, NoSuchElementException {
    Design design = heldDesign(slot);
    return design.countWith(bitOfPoint(design, point) | bitOfPoint(design, other));
  }

  public int meets(int slot, int block, int other) throws IndexOutOfBoundsException, NoSuchElementException {
    return Integer.bitCount(heldBlock(slot, block) & heldBlock(slot, other));
  }

  public int distance(int slot, int block, int other) throws IndexOutOfBoundsException, NoSuchElementException {
    return Integer.bitCount(heldBlock(slot, block) ^ heldBlock(slot, other));
  }

  public boolean isEven(int slot) throws IndexOutOfBoundsException, NoSuchElementException {
    return heldDesign(slot).evenPairs() > 0;
  }

  public int fault(int slot) throws IndexOutOfBoundsException, NoSuchElementException {
    return heldDesign(slot).firstFault();
  }

  public char cause(int points, int size, int often) throws IllegalArgumentException {
    if (points < 2 || points > MOST_NUMBER || size < 2 || size >= points || often < 1 || often > MOST_NUMBER) {
      throw new IllegalArgumentException();
    }
    long byPoint = (long) often * (points - 1);
    if (byPoint % (size - 1) != 0) {
      return 'r';
    }
    long all = byPoint / (size - 1) * points;
    if (all % size != 0) {
      return 'b';
    }
    long count = all / size;
    if (count < points) {
      return 'f';
    }
    if (count == points && points % 2 == 0 && !isSquareNumber(size - often)) {
      return 's';
    }
    return '-';
  }

  public int rest(int slot, int to)
      throws IndexOutOfBoundsException, NoSuchElementException, UnsupportedOperationException {
    checkDesignSlot(slot);
    checkDesignSlot(to);
    Design design = heldDesign(slot);
    for (int i = 0; i < design.count; i++) {
      if (design.at(i) == design.allPoints()) {
        throw new UnsupportedOperationException();
      }
    }
    newDesign.makeRest(design);
    return becomeDesign(to);
  }

  public int dual(int slot, int to)
      throws IndexOutOfBoundsException, NoSuchElementException, UnsupportedOperationException {
    checkDesignSlot(slot);
    checkDesignSlot(to);
    Design design = heldDesign(slot);
    if (design.count < 1 || design.count > MOST_POINTS || design.unionOfBlocks() != design.allPoints()) {
      throw new UnsupportedOperationException();
    }
    newDesign.makeDual(design);
    becomeDesign(to);
    return newDesign.size;
  }

  public int part(int slot, int block, boolean isWithin, int to)
      throws IndexOutOfBoundsException, NoSuchElementException, UnsupportedOperationException {
    checkDesignSlot(slot);
    checkDesignSlot(to);
    int bits = heldBlock(slot, block);
    Design design = heldDesign(slot);
    int left = isWithin ? bits : design.allPoints() & ~bits;
    if (left == 0) {
      throw new UnsupportedOperationException();
    }
    newDesign.makePart(design, block, left);
    return becomeDesign(to);
  }

  public int covers(int slot) throws IndexOutOfBoundsException, NoSuchElementException, UnsupportedOperationException {
    findCovers(heldDesign(slot), MOST_COVERED_BLOCKS);
    return coverSearch.count;
  }

  public int coverSize(int slot, int index)
      throws IndexOutOfBoundsException, NoSuchElementException, UnsupportedOperationException,
      IllegalArgumentException {
    return Long.bitCount(coverOf(slot, index));
  }

  public int coverAt(int slot, int index, int place)
      throws IndexOutOfBoundsException, NoSuchElementException, UnsupportedOperationException,
      IllegalArgumentException {
    long cover = coverOf(slot, index);
    if (place < 0 || place >= Long.bitCount(cover)) {
      throw new IllegalArgumentException();
    }
    return placeOfBit(cover, place);
  }

  public boolean isParted(int slot)
      throws IndexOutOfBoundsException, NoSuchElementException, UnsupportedOperationException {
    Design design = heldDesign(slot);
    findCovers(design, MOST_PARTED_BLOCKS);
    return coverSearch.canPart();
  }

  public int ways(int slot) throws IndexOutOfBoundsException, NoSuchElementException, UnsupportedOperationException {
    Design design = heldDesign(slot);
    if (design.size > MOST_WAYS_POINTS) {
      throw new UnsupportedOperationException();
    }
    return waySearch.countWays(design);
  }

  // ---- tables

  public int shifts(int slot, int order, int a, int b) throws IndexOutOfBoundsException, IllegalArgumentException {
    checkTableSlot(slot);
    if (order < 2 || order > MOST_ORDER || a < 0 || a >= order || b < 0 || b >= order) {
      throw new IllegalArgumentException();
    }
    newTable.makeShifts(order, a, b);
    becomeTable(slot);
    return newTable.countSigns();
  }

  public int field(int slot, int order, int by) throws IndexOutOfBoundsException, IllegalArgumentException {
    checkTableSlot(slot);
    if (!Field.hasOrder(order) || by < 0 || by >= order) {
      throw new IllegalArgumentException();
    }
    newTable.makeField(order, by);
    becomeTable(slot);
    return newTable.countSigns();
  }

  public int setCell(int slot, int row, int column, int sign)
      throws IndexOutOfBoundsException, NoSuchElementException, IllegalArgumentException {
    Table table = heldTable(slot);
    if (!table.hasPlace(row, column)) {
      throw new NoSuchElementException();
    }
    if (sign < 0 || sign >= table.size) {
      throw new IllegalArgumentException();
    }
    int old = table.at(row, column);
    keep(OF_TABLES, slot);
    table.put(row, column, sign);
    return old;
  }

  public int order(int slot) throws IndexOutOfBoundsException, NoSuchElementException {
    return heldTable(slot).size;
  }

  public int cell(int slot, int row, int column) throws IndexOutOfBoundsException, NoSuchElementException {
    Table table = heldTable(slot);
    if (!table.hasPlace(row, column)) {
      throw new NoSuchElementException();
    }
    return table.at(row, column);
  }

  public boolean isSquare(int slot) throws IndexOutOfBoundsException, NoSuchElementException {
    return heldTable(slot).hasEachSignOnce();
  }

  public int turn(int slot, boolean isBySigns, int to)
      throws IndexOutOfBoundsException, NoSuchElementException, UnsupportedOperationException {
    checkTableSlot(slot);
    checkTableSlot(to);
    Table table = heldTable(slot);
    if (isBySigns && !table.hasEachSignOnce()) {
      throw new UnsupportedOperationException();
    }
    newTable.makeTurned(table, isBySigns);
    becomeTable(to);
    return newTable.at(0, 0);
  }

  public boolean areApart(int slot, int other)
      throws IndexOutOfBoundsException, NoSuchElementException, UnsupportedOperationException {
    checkTableSlot(slot);
    checkTableSlot(other);
    Table one = heldTable(slot);
    Table second = heldTable(other);
    if (!one.hasEachSignOnce() || !second.hasEachSignOnce() || one.size != second.size) {
      throw new UnsupportedOperationException();
    }
    return one.isApartFrom(second);
  }

  public int transversals(int slot)
      throws IndexOutOfBoundsException, NoSuchElementException, UnsupportedOperationException {
    Table table = heldTable(slot);
    if (table.size > MOST_TRANSVERSAL_ORDER || !table.hasEachSignOnce()) {
      throw new UnsupportedOperationException();
    }
    return table.countAllTransversals();
  }

  public int planeOf(int set, int to)
      throws IndexOutOfBoundsException, NoSuchElementException, UnsupportedOperationException {
    checkDesignSlot(to);
    if ((set & ~lowBits(TABLE_SLOTS)) != 0) {
      throw new IndexOutOfBoundsException();
    }
    if (set == 0) {
      throw new NoSuchElementException();
    }
    int order = 0;
    for (int i = 0; i < TABLE_SLOTS; i++) {
      if (hasBit(set, i)) {
        order = heldTable(i).size;
      }
    }
    if (order > MOST_PLANE_ORDER || Integer.bitCount(set) != order - 1 || !areAllApart(set)) {
      throw new UnsupportedOperationException();
    }
    makePlaneOfSquares(set, order);
    return becomeDesign(to);
  }

  // ---- rows of signs

  public int doubled(int slot, int times) throws IndexOutOfBoundsException, IllegalArgumentException {
    checkRowsSlot(slot);
    if (times < 0 || times > 4) {
      throw new IllegalArgumentException();
    }
    newRows.makeDoubled(times);
    return becomeRows(slot);
  }

  public int primes(int slot, int prime) throws IndexOutOfBoundsException, IllegalArgumentException {
    checkRowsSlot(slot);
    if (prime != 3 && prime != 7 && prime != 11 && prime != 19 && prime != 23) {
      throw new IllegalArgumentException();
    }
    newRows.makePrimes(prime);
    return becomeRows(slot);
  }

  public int sign(int slot, int row, int column) throws IndexOutOfBoundsException, NoSuchElementException {
    SignRows held = heldRows(slot);
    if (row < 0 || row >= held.count || column < 0 || column >= held.count) {
      throw new NoSuchElementException();
    }
    return held.signAt(row, column);
  }

  public int flip(int slot, boolean isRow, int index) throws IndexOutOfBoundsException, NoSuchElementException {
    SignRows held = heldRows(slot);
    if (index < 0 || index >= held.count) {
      throw new NoSuchElementException();
    }
    keep(OF_ROWS, slot);
    return isRow ? held.changeRow(index) : held.changeColumn(index);
  }

  public boolean areRowsApart(int slot) throws IndexOutOfBoundsException, NoSuchElementException {
    return heldRows(slot).areAllApart();
  }

  public int designOf(int slot, int to)
      throws IndexOutOfBoundsException, NoSuchElementException, UnsupportedOperationException {
    checkRowsSlot(slot);
    checkDesignSlot(to);
    SignRows held = heldRows(slot);
    if (held.count < 4) {
      throw new UnsupportedOperationException();
    }
    for (int i = 1; i < held.count; i++) {
      if (held.likeFirst(i) == 0) {
        throw new UnsupportedOperationException();
      }
    }
    newDesign.makeOfRows(held);
    return becomeDesign(to);
  }

  // ---- days and settings

  public int plays(int teams, int round, int team) throws IllegalArgumentException {
    checkDay(teams, round, team);
    return otherTeam(teams, round, team);
  }

  public boolean isHome(int teams, int round, int team) throws IllegalArgumentException {
    checkDay(teams, round, team);
    return isAtHome(teams, round, team);
  }

  public int breaks(int teams) throws IllegalArgumentException {
    checkDay(teams, 0, 0);
    int count = 0;
    for (int team = 0; team < teams; team++) {
      for (int round = 1; round < teams - 1; round++) {
        if (isAtHome(teams, round, team) == isAtHome(teams, round - 1, team)) {
          count++;
        }
      }
    }
    return count;
  }

  public int setting(int levels, int row, int factor) throws IllegalArgumentException {
    if (!Field.hasOrder(levels) || row < 0 || row >= levels * levels || factor < 0 || factor > levels) {
      throw new IllegalArgumentException();
    }
    int a = row / levels;
    int b = row % levels;
    return factor == levels ? a : Field.sum(levels, Field.times(levels, a, factor), b);
  }

  public int unmet(int levels, int factors, int rows) throws IllegalArgumentException {
    if (!Field.hasOrder(levels) || factors < 2 || factors > levels + 1 || rows < 0 || rows > levels * levels) {
      throw new IllegalArgumentException();
    }
    // The settings of two factors tell a and b, hence the row: so no pair of settings comes in two rows.
    return factors * (factors - 1) / 2 * (levels * levels - rows);
  }

  // ---- the text, the past

  public int type(char sign) throws IllegalArgumentException, IllegalStateException {
    if (sign < 32 || sign > 126) {
      throw new IllegalArgumentException();
    }
    if (textLength < 0 || textLength >= MOST_SIGNS) {
      throw new IllegalStateException();
    }
    text[textLength] = sign;
    textLength++;
    return textLength;
  }

  public int erase() {
    int length = textLength;
    textLength = 0;
    return length;
  }

  public int read(int slot) throws IndexOutOfBoundsException {
    checkDesignSlot(slot);
    int place = faultOfText(newDesign);
    textLength = 0;
    return place >= 0 ? -1 - place : becomeDesign(slot);
  }

  public int undo() throws NoSuchElementException {
    if (pastCount < 1) {
      throw new NoSuchElementException();
    }
    pastNext--;
    pastCount--;
    Kept kept = past[Math.floorMod(pastNext, MOST_KEPT)];
    if (kept.kind == OF_DESIGNS) {
      designs[kept.slot].take(kept.design);
    } else if (kept.kind == OF_TABLES) {
      tables[kept.slot].take(kept.table);
    } else {
      rows[kept.slot].take(kept.rows);
    }
    return pastCount;
  }

  // ---- figures

  public double meanSize(int slot) throws IndexOutOfBoundsException, NoSuchElementException, ArithmeticException {
    Design design = heldDesign(slot);
    if (design.count < 1) {
      throw new ArithmeticException();
    }
    return (double) design.sumOfSizes() / (double) design.count;
  }

  public float pairShare(int slot) throws IndexOutOfBoundsException, NoSuchElementException, ArithmeticException {
    Design design = heldDesign(slot);
    if (design.size < 2) {
      throw new ArithmeticException();
    }
    int all = design.size * (design.size - 1) / 2;
    return (float) design.countMetPairs() / (float) all;
  }

  public long checksum() {
    long sum = 7;
    for (int i = 0; i < DESIGN_SLOTS; i++) {
      sum = designs[i].addTo(sum);
    }
    for (int i = 0; i < TABLE_SLOTS; i++) {
      sum = tables[i].addTo(sum);
    }
    for (int i = 0; i < ROWS_SLOTS; i++) {
      sum = rows[i].addTo(sum);
    }
    for (int i = 0; i < textLength; i++) {
      sum = 31 * sum + signOfText(i);
    }
    return sum;
  }

  public boolean isTrue() {
    for (int i = 0; i < DESIGN_SLOTS; i++) {
      if (!hasEnoughBlocks(designs[i]) || !hasRightCovers(designs[i])) {
        return false;
      }
    }
    for (int i = 0; i < ROWS_SLOTS; i++) {
      if (rows[i].count > 2 && rows[i].count % 4 != 0 && rows[i].areAllApart()) {
        return false;
      }
    }
    return areFewApart();
  }

  // ---- slots and what is kept of them

  private static void checkDesignSlot(int slot) {
    if (slot < 0 || slot >= DESIGN_SLOTS) {
      throw new IndexOutOfBoundsException();
    }
  }

  private static void checkTableSlot(int slot) {
    if (slot < 0 || slot >= TABLE_SLOTS) {
      throw new IndexOutOfBoundsException();
    }
  }

  private static void checkRowsSlot(int slot) {
    if (slot < 0 || slot >= ROWS_SLOTS) {
      throw new IndexOutOfBoundsException();
    }
  }

  private Design heldDesign(int slot) {
    checkDesignSlot(slot);
    Design design = designs[slot];
    if (design.size == 0) {
      throw new NoSuchElementException();
    }
    return design;
  }

  private Table heldTable(int slot) {
    checkTableSlot(slot);
    Table table = tables[slot];
    if (table.size == 0) {
      throw new NoSuchElementException();
    }
    return table;
  }

  private SignRows heldRows(int slot) {
    checkRowsSlot(slot);
    SignRows held = rows[slot];
    if (held.count == 0) {
      throw new NoSuchElementException();
    }
    return held;
  }

  private int heldBlock(int slot, int block) {
    Design design = heldDesign(slot);
    if (block < 0 || block >= design.count) {
      throw new NoSuchElementException();
    }
    return design.at(block);
  }

  private static int bitOfPoint(Design design, int point) {
    if (point < 0 || point >= design.size) {
      throw new NoSuchElementException();
    }
    return 1 << point;
  }

  private int becomeDesign(int slot) {
    keep(OF_DESIGNS, slot);
    designs[slot].take(newDesign);
    return newDesign.count;
  }

  private void becomeTable(int slot) {
    keep(OF_TABLES, slot);
    tables[slot].take(newTable);
  }

  private int becomeRows(int slot) {
    keep(OF_ROWS, slot);
    rows[slot].take(newRows);
    return newRows.count;
  }

  private void keep(int kind, int slot) {
    Kept kept = past[Math.floorMod(pastNext, MOST_KEPT)];
    kept.kind = kind;
    kept.slot = slot;
    if (kind == OF_DESIGNS) {
      kept.design.take(designs[slot]);
    } else if (kind == OF_TABLES) {
      kept.table.take(tables[slot]);
    } else {
      kept.rows.take(rows[slot]);
    }
    pastNext++;
    pastCount = Math.min(pastCount + 1, MOST_KEPT);
  }

  // ---- covers

  private void findCovers(Design design, int mostBlocks) {
    if (design.count > mostBlocks) {
      throw new UnsupportedOperationException();
    }
    coverSearch.find(design);
    if (coverSearch.count > MOST_COVERS) {
      throw new UnsupportedOperationException();
    }
  }

  private long coverOf(int slot, int index) {
    findCovers(heldDesign(slot), MOST_COVERED_BLOCKS);
    if (index < 0 || index >= coverSearch.count) {
      throw new IllegalArgumentException();
    }
    return coverSearch.at(index);
  }

  // ---- squares that are apart

  private boolean areAllApart(int set) {
    for (int i = 0; i < TABLE_SLOTS; i++) {
      if (hasBit(set, i) && !tables[i].hasEachSignOnce()) {
        return false;
      }
    }
    for (int i = 0; i < TABLE_SLOTS; i++) {
      for (int j = 0; j < i; j++) {
        if (hasBit(set, i) && hasBit(set, j) && !tables[i].isApartFrom(tables[j])) {
          return false;
        }
      }
    }
    return true;
  }

  private void makePlaneOfSquares(int set, int order) {
    newDesign.begin(order * order);
    for (int i = 0; i < TABLE_SLOTS; i++) {
      if (hasBit(set, i)) {
        newDesign.addSigns(tables[i]);
      }
    }
    newDesign.addRowsAndColumns(order);
  }

  // ---- the theorem

  private static boolean hasEnoughBlocks(Design design) {
    int due = design.evenPairs();
    if (due == 0 || design.count > design.size) {
      return true;
    }
    if (design.count < design.size) {
      return false;
    }
    for (int i = 0; i < design.count; i++) {
      for (int j = 0; j < i; j++) {
        if (Integer.bitCount(design.at(i) & design.at(j)) != due) {
          return false;
        }
      }
    }
    return true;
  }

  private boolean hasRightCovers(Design design) {
    if (design.size == 0 || design.count > MOST_CHECKED_BLOCKS) {
      return true;
    }
    coverSearch.find(design);
    if (coverSearch.count > MOST_COVERS) {
      return true;
    }
    for (int i = 0; i < coverSearch.count; i++) {
      if (!hasEachPointOnce(design, coverSearch.at(i))) {
        return false;
      }
      for (int j = 0; j < i; j++) {
        if (coverSearch.at(i) == coverSearch.at(j)) {
          return false;
        }
      }
    }
    return true;
  }

  private static boolean hasEachPointOnce(Design design, long cover) {
    int covered = 0;
    for (int i = 0; i < design.count; i++) {
      if ((cover >>> i & 1L) != 0) {
        if ((covered & design.at(i)) != 0) {
          return false;
        }
        covered |= design.at(i);
      }
    }
    return covered == design.allPoints();
  }

  private boolean areFewApart() {
    int squares = 0;
    for (int i = 0; i < TABLE_SLOTS; i++) {
      apartSlots[i] = 0;
      if (tables[i].size > 0 && tables[i].hasEachSignOnce()) {
        squares |= 1 << i;
      }
      for (int j = 0; j < i; j++) {
        if (hasBit(squares, i) && hasBit(squares, j) && tables[i].isApartFrom(tables[j])) {
          apartSlots[i] |= 1 << j;
          apartSlots[j] |= 1 << i;
        }
      }
    }
    for (int set = 1; set < 1 << TABLE_SLOTS; set++) {
      if ((set & ~squares) == 0 && !isFewOrNotApart(set)) {
        return false;
      }
    }
    return true;
  }

  private boolean isFewOrNotApart(int set) {
    int order = 0;
    for (int i = 0; i < TABLE_SLOTS; i++) {
      if (hasBit(set, i)) {
        if ((set & ~(apartSlots[i] | 1 << i)) != 0) {
          return true;
        }
        order = tables[i].size;
      }
    }
    return Integer.bitCount(set) < order;
  }

  // ---- days

  private static void checkDay(int teams, int round, int team) {
    if (teams < 2 || teams > 20 || teams % 2 != 0 || round < 0 || round > teams - 2 || team < 0 || team >= teams) {
      throw new IllegalArgumentException();
    }
  }

  private static int otherTeam(int teams, int round, int team) {
    int last = teams - 1;
    if (team == last) {
      // Half of the teams, doubled, is 1 modulo the last one: so it halves.
      return modulo(round * (teams / 2), last);
    }
    int other = modulo(round - team, last);
    return other == team ? last : other;
  }

  private static boolean isAtHome(int teams, int round, int team) {
    int other = otherTeam(teams, round, team);
    if (team == teams - 1) {
      return round % 2 == 0;
    }
    if (other == teams - 1) {
      return round % 2 != 0;
    }
    boolean isLesser = team < other;
    boolean isOdd = (team + other) % 2 != 0;
    return isLesser == isOdd;
  }

  // ---- the text

  /** Reads the text into a design; the fault, or -1 if there is none. */
  private int faultOfText(Design into) {
    into.begin(0);
    int place = 0;
    int bits = 0;
    for (int numbers = 0; numbers <= MOST_SIGNS; numbers++) {
      int end = endOfDigits(place);
      int number = numberAt(place, end);
      if (end == place || !canStand(into.size, bits, number)) {
        return place;
      }
      boolean isFirst = into.size == 0;
      if (isFirst) {
        into.begin(number);
      } else {
        bits |= 1 << number;
      }
      char next = signOfText(end);
      if (!isFirst && (next == NO_SIGN || next == ';')) {
        into.add(bits);
        bits = 0;
      } else if (next != NO_SIGN && next != (isFirst ? ':' : ',')) {
        return end;
      }
      if (next == NO_SIGN) {
        return -1;
      }
      place = end + 1;
    }
    return place;
  }

  /** Whether a number is right as how many points there are, if none are told yet, else as a point of a block. */
  private static boolean canStand(int points, int bits, int number) {
    if (points == 0) {
      return number >= 1 && number <= MOST_POINTS;
    }
    return number < points && !hasBit(bits, number);
  }

  /** The sign at a place of the text, or NO_SIGN where it has none. */
  private char signOfText(int place) {
    return place < 0 || place >= textLength || place >= MOST_SIGNS ? NO_SIGN : text[place];
  }

  private int endOfDigits(int place) {
    int end = place;
    while (end < textLength && signOfText(end) >= '0' && signOfText(end) <= '9') {
      end++;
    }
    return end;
  }

  private int numberAt(int place, int end) {
    int number = 0;
    for (int i = place; i < end; i++) {
      // What is above all points stays so, however many digits follow.
      number = Math.min(10 * number + (signOfText(i) - '0'), MOST_POINTS + 1);
    }
    return number;
  }

  // ---- numbers and bits

  private static int modulo(int number, int by) {
    return by < 1 ? 0 : Math.floorMod(number, by);
  }

  private static int lowBits(int count) {
    return (1 << count) - 1;
  }

  private static boolean hasBit(int bits, int index) {
    return (bits >>> index & 1) != 0;
  }

  /** The place of the bit that has as many set ones below it as told, or -1. */
  private static int placeOfBit(long bits, int below) {
    int left = below;
    for (int i = 0; i < 64; i++) {
      if ((bits >>> i & 1L) != 0) {
        if (left == 0) {
          return i;
        }
        left--;
      }
    }
    return -1;
  }

  private static boolean isSquareNumber(int number) {
    int root = 0;
    while (root <= MOST_NUMBER && (long) root * root < number) {
      root++;
    }
    return (long) root * root == number;
  }

  /** A design; none, while it has no points. */
  private static final class Design {
    final int[] bits = new int[MOST_BLOCKS];
    int size = 0;
    int count = 0;

    void begin(int points) {
      size = points;
      count = 0;
    }

    void add(int block) {
      if (count >= 0 && count < MOST_BLOCKS) {
        bits[count] = block;
        count++;
      }
    }

    int at(int block) {
      return block < 0 || block >= count ? 0 : bits[block];
    }

    void take(Design from) {
      size = from.size;
      count = from.count;
      System.arraycopy(from.bits, 0, bits, 0, from.count);
    }

    long addTo(long start) {
      long sum = 31 * start + size;
      for (int i = 0; i < count; i++) {
        sum = 31 * sum + at(i);
      }
      return sum;
    }

    int allPoints() {
      return lowBits(size);
    }

    int unionOfBlocks() {
      int union = 0;
      for (int i = 0; i < count; i++) {
        union |= at(i);
      }
      return union;
    }

    int countWith(int points) {
      int with = 0;
      for (int i = 0; i < count; i++) {
        if ((at(i) & points) == points) {
          with++;
        }
      }
      return with;
    }

    int sumOfSizes() {
      int sum = 0;
      for (int i = 0; i < count; i++) {
        sum += Integer.bitCount(at(i));
      }
      return sum;
    }

    int countMetPairs() {
      int met = 0;
      for (int point = 0; point < size; point++) {
        int near = 0;
        for (int i = 0; i < count; i++) {
          if (hasBit(at(i), point)) {
            near |= at(i);
          }
        }
        met += Integer.bitCount(near & ~lowBits(point + 1));
      }
      return met;
    }

    boolean isOfTriples() {
      for (int i = 0; i < count; i++) {
        if (Integer.bitCount(at(i)) != 3) {
          return false;
        }
      }
      return true;
    }

    /** In how many blocks each pair is, if the design is even, else 0. */
    int evenPairs() {
      int length = Integer.bitCount(at(0));
      if (length < 2 || length >= size) {
        return 0;
      }
      for (int i = 1; i < count; i++) {
        if (Integer.bitCount(at(i)) != length) {
          return 0;
        }
      }
      return firstFault() < 0 ? countWith(3) : 0;
    }

    int firstFault() {
      int due = countWith(3);
      for (int point = 0; point < size; point++) {
        for (int other = point + 1; other < size; other++) {
          if (countWith(1 << point | 1 << other) != due) {
            return 100 * point + other;
          }
        }
      }
      return -1;
    }

    void makeShift(int points, int first) {
      begin(points);
      int block = first;
      for (int i = 0; i < points; i++) {
        add(block);
        block = block << 1 & lowBits(points) | block >>> (points - 1);
      }
    }

    void makePlane(int order, boolean hasParallels) {
      int inner = order * order;
      begin(hasParallels ? inner : inner + order + 1);
      for (int m = 0; m < order; m++) {
        for (int c = 0; c < order; c++) {
          int block = hasParallels ? 0 : 1 << (inner + m);
          for (int x = 0; x < order; x++) {
            block |= 1 << (order * x + Field.sum(order, Field.times(order, m, x), c));
          }
          add(block);
        }
      }
      for (int c = 0; c < order; c++) {
        int block = lowBits(order) << (order * c);
        add(hasParallels ? block : block | 1 << (inner + order));
      }
      if (!hasParallels) {
        add(lowBits(order + 1) << inner);
      }
    }

    void makeBose(int t) {
      int n = 2 * t + 1;
      begin(3 * n);
      addColumns(n, n);
      for (int x = 0; x < n; x++) {
        for (int y = x + 1; y < n; y++) {
          // t + 1, doubled, is 1 modulo n: so it halves.
          addMixed(n, x, y, modulo((x + y) * (t + 1), n));
        }
      }
    }

    void makeSkolem(int t) {
      int n = 2 * t;
      begin(3 * n + 1);
      addColumns(n, t);
      for (int x = 0; x < t; x++) {
        for (int k = 0; k < 3; k++) {
          add(1 << (3 * n) | 1 << (n * k + t + x) | 1 << (n * following(k) + x));
        }
      }
      for (int x = 0; x < n; x++) {
        for (int y = x + 1; y < n; y++) {
          int s = modulo(x + y, n);
          addMixed(n, x, y, s % 2 == 0 ? s / 2 : (s + n - 1) / 2);
        }
      }
    }

    private static int following(int k) {
      return k < 2 ? k + 1 : 0;
    }

    private void addColumns(int n, int howMany) {
      for (int x = 0; x < howMany; x++) {
        add(1 << x | 1 << (n + x) | 1 << (2 * n + x));
      }
    }

    private void addMixed(int n, int x, int y, int half) {
      for (int k = 0; k < 3; k++) {
        add(1 << (n * k + x) | 1 << (n * k + y) | 1 << (n * following(k) + half));
      }
    }

    void makeProduct(Design one, Design other) {
      int w = other.size;
      begin(one.size * w);
      for (int a = 0; a < one.size; a++) {
        for (int i = 0; i < other.count; i++) {
          add(other.at(i) << (w * a));
        }
      }
      for (int b = 0; b < w; b++) {
        for (int i = 0; i < one.count; i++) {
          addSpread(one.at(i), w, b);
        }
      }
      for (int i = 0; i < one.count; i++) {
        for (int j = 0; j < other.count; j++) {
          addOrders(one.at(i), other.at(j), w);
        }
      }
    }

    private void addSpread(int block, int w, int b) {
      int spread = 0;
      for (int a = 0; a < MOST_POINTS; a++) {
        if (hasBit(block, a)) {
          spread |= 1 << (w * a + b);
        }
      }
      add(spread);
    }

    private void addOrders(int block, int other, int w) {
      for (int start = 0; start + 2 < ORDERS_OF_THREE.length; start += 3) {
        int mixed = 0;
        for (int i = 0; i < 3; i++) {
          mixed |= 1 << (w * placeOfBit(block, i) + placeOfBit(other, ORDERS_OF_THREE[start + i]));
        }
        add(mixed);
      }
    }

    void makeRest(Design of) {
      begin(of.size);
      for (int i = 0; i < of.count; i++) {
        add(of.allPoints() & ~of.at(i));
      }
    }

    void makeDual(Design of) {
      begin(of.count);
      for (int point = 0; point < of.size; point++) {
        int block = 0;
        for (int i = 0; i < of.count; i++) {
          if (hasBit(of.at(i), point)) {
            block |= 1 << i;
          }
        }
        add(block);
      }
    }

    void makePart(Design of, int block, int left) {
      begin(Integer.bitCount(left));
      for (int i = 0; i < of.count; i++) {
        if (i != block && (of.at(i) & left) != 0) {
          add(numberedAnew(of.at(i), left));
        }
      }
    }

    private static int numberedAnew(int block, int left) {
      int anew = 0;
      int next = 0;
      for (int point = 0; point < MOST_POINTS; point++) {
        if (hasBit(left, point)) {
          if (hasBit(block, point)) {
            anew |= 1 << next;
          }
          next++;
        }
      }
      return anew;
    }

    void addSigns(Table square) {
      for (int sign = 0; sign < square.size; sign++) {
        int block = 0;
        for (int x = 0; x < square.size; x++) {
          for (int y = 0; y < square.size; y++) {
            if (square.at(x, y) == sign) {
              block |= 1 << (square.size * x + y);
            }
          }
        }
        add(block);
      }
    }

    void addRowsAndColumns(int order) {
      for (int x = 0; x < order; x++) {
        add(lowBits(order) << (order * x));
      }
      for (int y = 0; y < order; y++) {
        int block = 0;
        for (int x = 0; x < order; x++) {
          block |= 1 << (order * x + y);
        }
        add(block);
      }
    }

    void makeOfRows(SignRows of) {
      begin(of.count - 1);
      for (int i = 1; i < of.count; i++) {
        add(of.likeFirst(i));
      }
    }
  }

  /** Finds the covers of a design of at most 40 blocks, a cover being the bits of the numbers of its blocks. */
  private static final class CoverSearch {
    final int[] bits = new int[MOST_COVERED_BLOCKS];
    final long[] meeting = new long[MOST_COVERED_BLOCKS];
    final long[] having = new long[MOST_POINTS];
    final long[] found = new long[MOST_COVERS + 1];
    int blockCount = 0;
    int count = 0;

    long at(int index) {
      return index < 0 || index >= count ? 0L : found[index];
    }

    /** Finds all covers, or, if there are too many, one more than are told. */
    void find(Design of) {
      blockCount = Math.min(of.count, MOST_COVERED_BLOCKS);
      count = 0;
      for (int i = 0; i < MOST_POINTS; i++) {
        having[i] = 0L;
      }
      for (int i = 0; i < blockCount; i++) {
        bits[i] = of.at(i);
        meeting[i] = 0L;
      }
      for (int i = 0; i < blockCount; i++) {
        noteBlock(i);
      }
      extend(this, of.allPoints(), allBlocks(), 0L, 0);
    }

    private long allBlocks() {
      return (1L << blockCount) - 1L;
    }

    private void noteBlock(int block) {
      for (int point = 0; point < MOST_POINTS; point++) {
        if (hasBit(bits[block], point)) {
          having[point] |= 1L << block;
        }
      }
      for (int i = 0; i < blockCount; i++) {
        if ((bits[i] & bits[block]) != 0) {
          meeting[block] |= 1L << i;
        }
      }
    }

    private static void extend(CoverSearch search, int open, long free, long chosen, int depth) {
      if (depth > MOST_POINTS || search.count > MOST_COVERS) {
        return;
      }
      if (open == 0) {
        search.enter(chosen);
        return;
      }
      long choices = search.fewestChoices(open, free);
      for (int i = 0; i < search.blockCount; i++) {
        if ((choices >>> i & 1L) != 0) {
          int before = search.count;
          extend(search, open & ~search.bits[i], free & ~search.meeting[i], chosen | 1L << i, depth + 1);
          if (search.count == before) {
            // Where one block leads nowhere, none with the same points leads anywhere.
            choices &= ~search.blocksLike(i);
          }
        }
      }
    }

    private long blocksLike(int block) {
      long like = 0L;
      for (int i = 0; i < blockCount; i++) {
        if (bits[i] == bits[block]) {
          like |= 1L << i;
        }
      }
      return like;
    }

    /** The blocks for the open point that has the fewest: so what leads nowhere ends soon. */
    private long fewestChoices(int open, long free) {
      long fewest = free;
      int least = MOST_COVERED_BLOCKS + 1;
      for (int point = 0; point < MOST_POINTS; point++) {
        if (hasBit(open, point)) {
          long choices = having[point] & free;
          if (Long.bitCount(choices) < least) {
            least = Long.bitCount(choices);
            fewest = choices;
          }
        }
      }
      return fewest;
    }

    private void enter(long cover) {
      if (count < 0 || count > MOST_COVERS) {
        return;
      }
      int place = count;
      while (place > 0 && isAhead(cover, found[place - 1])) {
        found[place] = found[place - 1];
        place--;
      }
      found[place] = cover;
      count++;
    }

    /** Where two covers differ first, the one that has the lesser block there has the least bit that differs. */
    private static boolean isAhead(long cover, long other) {
      long unlike = cover ^ other;
      return (cover & unlike & -unlike) != 0;
    }

    boolean canPart() {
      return canPartRest(this, allBlocks(), 0);
    }

    private static boolean canPartRest(CoverSearch search, long left, int depth) {
      if (left == 0) {
        return true;
      }
      if (depth >= MOST_PARTED_BLOCKS) {
        return false;
      }
      for (int i = 0; i < search.count; i++) {
        long cover = search.at(i);
        boolean fits = (cover & ~left) == 0 && (cover & left & -left) != 0;
        if (fits && canPartRest(search, left & ~cover, depth + 1)) {
          return true;
        }
      }
      return false;
    }
  }

  /** Counts the ways to put about the points of a design of at most 7 points. */
  private static final class WaySearch {
    final int[] times = new int[1 << MOST_WAYS_POINTS];
    final int[] image = new int[1 << MOST_WAYS_POINTS];
    int size = 0;

    /**
     * While the points below one stay, all that this one can go to are as good as each other: so the ways are the
     * product of these numbers, and of each kind one way is enough to be found.
     */
    int countWays(Design of) {
      countBlocks(of);
      int ways = 1;
      for (int point = 0; point < size; point++) {
        for (int set = 0; set < 1 << point; set++) {
          image[set] = set;
        }
        int goals = 0;
        for (int goal = point; goal < size; goal++) {
          if (canGo(this, point, goal, lowBits(point))) {
            goals++;
          }
        }
        ways *= goals;
      }
      return ways;
    }

    private void countBlocks(Design of) {
      size = Math.min(of.size, MOST_WAYS_POINTS);
      for (int set = 0; set < 1 << MOST_WAYS_POINTS; set++) {
        times[set] = 0;
      }
      for (int i = 0; i < of.count; i++) {
        times[of.at(i) & lowBits(MOST_WAYS_POINTS)]++;
      }
    }

    /** Whether a point can go to a free goal, those below it being put, and those above it in some way. */
    private static boolean canGo(WaySearch search, int point, int goal, int taken) {
      if (point < 0 || point >= MOST_WAYS_POINTS || !search.staysWith(point, goal)) {
        return false;
      }
      if (point + 1 >= search.size) {
        return true;
      }
      int nowTaken = taken | 1 << goal;
      for (int next = 0; next < search.size; next++) {
        if (!hasBit(nowTaken, next) && canGo(search, point + 1, next, nowTaken)) {
          return true;
        }
      }
      return false;
    }

    private boolean staysWith(int point, int goal) {
      for (int set = 0; set < 1 << point; set++) {
        int moved = image[set] | 1 << goal;
        if (times[set | 1 << point] != times[moved]) {
          return false;
        }
        image[set | 1 << point] = moved;
      }
      return true;
    }
  }

  /** The fields whose numbers are those below their order. */
  private static final class Field {
    static boolean hasOrder(int order) {
      return order >= 2 && order <= MOST_ORDER && order != 6;
    }

    static int sum(int order, int a, int b) {
      if (order == 4 || order == 8) {
        return a ^ b;
      }
      if (order == 9) {
        return 3 * ((a / 3 + b / 3) % 3) + (a % 3 + b % 3) % 3;
      }
      return modulo(a + b, order);
    }

    static int times(int order, int a, int b) {
      if (order == 4) {
        return timesByBits(a, b, 2, 7);
      }
      if (order == 8) {
        return timesByBits(a, b, 3, 11);
      }
      if (order == 9) {
        int high = a / 3 * (b % 3) + a % 3 * (b / 3);
        int low = a % 3 * (b % 3) + 2 * (a / 3) * (b / 3);
        return 3 * (high % 3) + low % 3;
      }
      return modulo(a * b, order);
    }

    /** By polynomials of less than a degree, the one of that degree with the bits zero being 0. */
    private static int timesByBits(int a, int b, int degree, int zero) {
      int product = 0;
      for (int i = 0; i < degree; i++) {
        if (hasBit(b, i)) {
          product ^= a << i;
        }
      }
      for (int i = 2 * degree - 2; i >= degree; i--) {
        if (hasBit(product, i)) {
          product ^= zero << (i - degree);
        }
      }
      return product;
    }
  }

  /** A table; none, while its size, which is its order, is 0. */
  private static final class Table {
    final int[] signs = new int[MOST_ORDER * MOST_ORDER];
    int size = 0;

    boolean hasPlace(int row, int column) {
      return row >= 0 && row < size && column >= 0 && column < size;
    }

    int at(int row, int column) {
      return hasPlace(row, column) ? signs[MOST_ORDER * row + column] : 0;
    }

    void put(int row, int column, int sign) {
      if (hasPlace(row, column)) {
        signs[MOST_ORDER * row + column] = sign;
      }
    }

    void take(Table from) {
      size = from.size;
      System.arraycopy(from.signs, 0, signs, 0, MOST_ORDER * MOST_ORDER);
    }

    long addTo(long start) {
      long sum = 31 * start + size;
      for (int row = 0; row < size; row++) {
        for (int column = 0; column < size; column++) {
          sum = 31 * sum + at(row, column);
        }
      }
      return sum;
    }

    int countSigns() {
      int seen = 0;
      for (int row = 0; row < size; row++) {
        for (int column = 0; column < size; column++) {
          seen |= 1 << at(row, column);
        }
      }
      return Integer.bitCount(seen);
    }

    boolean hasEachSignOnce() {
      for (int i = 0; i < size; i++) {
        int inRow = 0;
        int inColumn = 0;
        for (int j = 0; j < size; j++) {
          inRow |= 1 << at(i, j);
          inColumn |= 1 << at(j, i);
        }
        if (inRow != lowBits(size) || inColumn != lowBits(size)) {
          return false;
        }
      }
      return true;
    }

    boolean isApartFrom(Table other) {
      if (size != other.size) {
        return false;
      }
      for (int sign = 0; sign < size; sign++) {
        int beside = 0;
        for (int row = 0; row < size; row++) {
          for (int column = 0; column < size; column++) {
            if (at(row, column) == sign) {
              beside |= 1 << other.at(row, column);
            }
          }
        }
        if (beside != lowBits(size)) {
          return false;
        }
      }
      return true;
    }

    int countAllTransversals() {
      return countTransversals(this, 0, 0, 0);
    }

    private static int countTransversals(Table table, int row, int columns, int seen) {
      if (row >= table.size || row >= MOST_TRANSVERSAL_ORDER) {
        return 1;
      }
      int count = 0;
      for (int column = 0; column < table.size; column++) {
        int sign = table.at(row, column);
        if (!hasBit(columns, column) && !hasBit(seen, sign)) {
          count += countTransversals(table, row + 1, columns | 1 << column, seen | 1 << sign);
        }
      }
      return count;
    }

    void makeShifts(int order, int a, int b) {
      size = order;
      for (int row = 0; row < order; row++) {
        for (int column = 0; column < order; column++) {
          put(row, column, modulo(a * row + b * column, order));
        }
      }
    }

    void makeField(int order, int by) {
      size = order;
      for (int row = 0; row < order; row++) {
        for (int column = 0; column < order; column++) {
          put(row, column, Field.sum(order, Field.times(order, row, by), column));
        }
      }
    }

    void makeTurned(Table of, boolean isBySigns) {
      size = of.size;
      for (int row = 0; row < of.size; row++) {
        for (int column = 0; column < of.size; column++) {
          if (isBySigns) {
            put(row, of.at(row, column), column);
          } else {
            put(column, row, of.at(row, column));
          }
        }
      }
    }
  }

  /** Rows of signs, of each row the bits of the columns that have 1; none, while there are no rows. */
  private static final class SignRows {
    final int[] ones = new int[MOST_ROWS];
    int count = 0;

    int signAt(int row, int column) {
      return hasBit(onesOf(row), column) ? 1 : -1;
    }

    private int onesOf(int row) {
      return row < 0 || row >= count ? 0 : ones[row];
    }

    private void setRow(int row, int bits) {
      if (row >= 0 && row < count) {
        ones[row] = bits;
      }
    }

    void take(SignRows from) {
      count = from.count;
      System.arraycopy(from.ones, 0, ones, 0, MOST_ROWS);
    }

    long addTo(long start) {
      long sum = 31 * start + count;
      for (int row = 0; row < count; row++) {
        for (int column = 0; column < count; column++) {
          sum = 31 * sum + signAt(row, column);
        }
      }
      return sum;
    }

    int changeRow(int row) {
      setRow(row, onesOf(row) ^ lowBits(count));
      return Integer.bitCount(onesOf(row));
    }

    int changeColumn(int column) {
      int with = 0;
      for (int row = 0; row < count; row++) {
        setRow(row, onesOf(row) ^ 1 << column);
        if (hasBit(onesOf(row), column)) {
          with++;
        }
      }
      return with;
    }

    boolean areAllApart() {
      for (int row = 0; row < count; row++) {
        for (int other = 0; other < row; other++) {
          if (2 * Integer.bitCount(onesOf(row) ^ onesOf(other)) != count) {
            return false;
          }
        }
      }
      return true;
    }

    /** The columns but the first, numbered less by 1, that have the sign of the first one in a row. */
    int likeFirst(int row) {
      int bits = onesOf(row);
      int like = hasBit(bits, 0) ? bits : ~bits & lowBits(count);
      return like >>> 1;
    }

    void makeDoubled(int times) {
      count = 1 << times;
      for (int row = 0; row < count; row++) {
        int bits = 0;
        for (int column = 0; column < count; column++) {
          // Each doubling changes the signs where the row and the column both are in the second half.
          if (Integer.bitCount(row & column) % 2 == 0) {
            bits |= 1 << column;
          }
        }
        setRow(row, bits);
      }
    }

    void makePrimes(int prime) {
      count = prime + 1;
      setRow(0, lowBits(count));
      int squares = 0;
      for (int i = 1; i < prime; i++) {
        squares |= 1 << modulo(i * i, prime);
      }
      for (int i = 0; i < prime; i++) {
        int bits = 1;
        for (int j = 0; j < prime; j++) {
          if (j != i && !hasBit(squares, modulo(j - i, prime))) {
            bits |= 2 << j;
          }
        }
        setRow(i + 1, bits);
      }
    }
  }

  /** What a slot held ahead of a change. */
  private static final class Kept {
    final Design design = new Design();
    final Table table = new Table();
    final SignRows rows = new SignRows();
    int kind = OF_DESIGNS;
    int slot = 0;
  }
}
