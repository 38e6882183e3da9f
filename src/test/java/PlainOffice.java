import java.math.BigInteger;
import java.util.ArrayDeque;
import java.util.ArrayList;
import java.util.Arrays;
import java.util.Collections;
import java.util.HashMap;
import java.util.HashSet;
import java.util.List;
import java.util.Map;
import java.util.NoSuchElementException;
import java.util.Set;
import java.util.TreeSet;

/**
 * The document once more, as slowly and as literally as it can be said, for RandomRunsTest to compare with: sets of
 * points instead of bits, searches over all there is instead of formulas.
 */
final class PlainOffice {
  private static final class Design {
    final int points;
    final List<TreeSet<Integer>> blocks = new ArrayList<>();

    Design(int points) {
      this.points = points;
    }

    Design copy() {
      Design other = new Design(points);
      for (TreeSet<Integer> block : blocks) {
        other.blocks.add(new TreeSet<>(block));
      }
      return other;
    }

    void add(Integer... members) {
      blocks.add(new TreeSet<>(Arrays.asList(members)));
    }
  }

  private final Object[][] slots = {new Object[6], new Object[6], new Object[3]};
  private final ArrayDeque<Object[]> past = new ArrayDeque<>();
  private String text = "";

  // ---- slots

  private static Object copyOf(Object held) {
    if (held instanceof Design) {
      return ((Design) held).copy();
    }
    if (held == null) {
      return null;
    }
    int[][] rows = ((int[][]) held).clone();
    for (int i = 0; i < rows.length; i++) {
      rows[i] = rows[i].clone();
    }
    return rows;
  }

  private void become(int kind, int slot, Object made) {
    past.addLast(new Object[] {kind, slot, copyOf(slots[kind][slot])});
    if (past.size() > 8) {
      past.removeFirst();
    }
    slots[kind][slot] = copyOf(made);
  }

  private void check(int kind, int... numbers) {
    for (int slot : numbers) {
      if (slot < 0 || slot >= slots[kind].length) {
        throw new IndexOutOfBoundsException();
      }
    }
  }

  private Object held(int kind, int slot) {
    check(kind, slot);
    if (slots[kind][slot] == null) {
      throw new NoSuchElementException();
    }
    return slots[kind][slot];
  }

  private Design design(int slot) {
    return (Design) held(0, slot);
  }

  private int[][] table(int slot) {
    return (int[][]) held(1, slot);
  }

  private int[][] rows(int slot) {
    return (int[][]) held(2, slot);
  }

  private static void argue(boolean isRight) {
    if (!isRight) {
      throw new IllegalArgumentException();
    }
  }

  private static void find(boolean isThere) {
    if (!isThere) {
      throw new NoSuchElementException();
    }
  }

  private static void support(boolean isSupported) {
    if (!isSupported) {
      throw new UnsupportedOperationException();
    }
  }

  private static TreeSet<Integer> setOf(int bits) {
    TreeSet<Integer> set = new TreeSet<>();
    for (int i = 0; i < 32; i++) {
      if (BigInteger.valueOf(bits & 0xFFFFFFFFL).testBit(i)) {
        set.add(i);
      }
    }
    return set;
  }

  private static int bitsOf(Set<Integer> set) {
    int sum = 0;
    for (int point : set) {
      sum += 1 << point;
    }
    return sum;
  }

  // ---- fields

  private static final int[] LEVELS = {2, 3, 4, 5, 7, 8, 9};

  private static boolean isLevels(int order) {
    return Arrays.binarySearch(LEVELS, order) >= 0;
  }

  private static int base(int order) {
    return order == 4 || order == 8 ? 2 : order == 9 ? 3 : order;
  }

  private static int plus(int order, int a, int b) {
    int base = base(order);
    int sum = 0;
    for (int worth = 1; worth < order; worth *= base) {
      sum += (a / worth + b / worth) % base * worth;
    }
    return sum;
  }

  /** By z, as often as told, then the sum over the digits: z z = z + 1, z z z = z + 1, z z = 2. */
  private static int byZ(int order, int a) {
    if (order == 4) {
      return new int[] {0, 2, 3, 1}[a];
    }
    if (order == 8) {
      return new int[] {0, 2, 4, 6, 3, 1, 7, 5}[a];
    }
    return a % 3 * 3 + 2 * (a / 3) % 3;
  }

  private static int times(int order, int a, int b) {
    int product = 0;
    int moved = a;
    int base = base(order);
    if (base == order) {
      return a * b % order;
    }
    for (int left = b; left > 0; left /= base) {
      for (int i = 0; i < left % base; i++) {
        product = plus(order, product, moved);
      }
      moved = byZ(order, moved);
    }
    return product;
  }

  // ---- designs

  int blank(int slot, int points) {
    check(0, slot);
    argue(points >= 1 && points <= 31);
    become(0, slot, new Design(points));
    return points;
  }

  int block(int slot, int bits) {
    Design old = design(slot);
    TreeSet<Integer> block = setOf(bits);
    argue(!block.isEmpty() && block.last() < old.points);
    if (old.blocks.size() == 160) {
      throw new IllegalStateException();
    }
    Design made = old.copy();
    made.blocks.add(block);
    become(0, slot, made);
    return old.blocks.size();
  }

  int shift(int slot, int points, int bits) {
    check(0, slot);
    TreeSet<Integer> block = setOf(bits);
    argue(points >= 1 && points <= 31 && !block.isEmpty() && block.last() < points);
    Design made = new Design(points);
    for (int i = 0; i < points; i++) {
      TreeSet<Integer> moved = new TreeSet<>();
      for (int point : block) {
        moved.add((point + i) % points);
      }
      made.blocks.add(moved);
    }
    become(0, slot, made);
    return points;
  }

  private static Design plane(int q, boolean hasParallels) {
    Design made = new Design(hasParallels ? q * q : q * q + q + 1);
    for (int m = 0; m <= q; m++) {
      for (int c = 0; c < q; c++) {
        TreeSet<Integer> block = new TreeSet<>();
        for (int x = 0; x < q; x++) {
          for (int y = 0; y < q; y++) {
            if (m < q ? y == plus(q, times(q, m, x), c) : x == c) {
              block.add(q * x + y);
            }
          }
        }
        if (!hasParallels) {
          block.add(q * q + m);
        }
        made.blocks.add(block);
      }
    }
    if (!hasParallels) {
      TreeSet<Integer> last = new TreeSet<>();
      for (int m = 0; m <= q; m++) {
        last.add(q * q + m);
      }
      made.blocks.add(last);
    }
    return made;
  }

  int affine(int slot, int order) {
    check(0, slot);
    argue(order >= 2 && order <= 5);
    become(0, slot, plane(order, true));
    return order * order + order;
  }

  int projective(int slot, int order) {
    check(0, slot);
    argue(order >= 2 && order <= 5);
    become(0, slot, plane(order, false));
    return order * order + order + 1;
  }

  int bose(int slot, int t) {
    check(0, slot);
    argue(t >= 0 && t <= 4);
    int n = 2 * t + 1;
    Design made = new Design(6 * t + 3);
    for (int x = 0; x < n; x++) {
      made.add(x, n + x, 2 * n + x);
    }
    for (int x = 0; x < n; x++) {
      for (int y = x + 1; y < n; y++) {
        int half = 0;
        while (2 * half % n != (x + y) % n) {
          half++;
        }
        made.add(x, y, n + half);
        made.add(n + x, n + y, 2 * n + half);
        made.add(2 * n + x, 2 * n + y, half);
      }
    }
    become(0, slot, made);
    return made.blocks.size();
  }

  int skolem(int slot, int t) {
    check(0, slot);
    argue(t >= 1 && t <= 5);
    int n = 2 * t;
    Design made = new Design(6 * t + 1);
    for (int x = 0; x < t; x++) {
      made.add(x, n + x, 2 * n + x);
    }
    for (int x = 0; x < t; x++) {
      made.add(6 * t, t + x, n + x);
      made.add(6 * t, n + t + x, 2 * n + x);
      made.add(6 * t, 2 * n + t + x, x);
    }
    for (int x = 0; x < n; x++) {
      for (int y = x + 1; y < n; y++) {
        int s = (x + y) % n;
        int half = s % 2 == 0 ? s / 2 : (s + n - 1) / 2;
        made.add(x, y, n + half);
        made.add(n + x, n + y, 2 * n + half);
        made.add(2 * n + x, 2 * n + y, half);
      }
    }
    become(0, slot, made);
    return made.blocks.size();
  }

  private static boolean isOfTriples(Design design) {
    for (TreeSet<Integer> block : design.blocks) {
      if (block.size() != 3) {
        return false;
      }
    }
    return true;
  }

  int product(int one, int other, int to) {
    check(0, one, other, to);
    Design first = design(one);
    Design second = design(other);
    support(isOfTriples(first) && isOfTriples(second) && first.points * second.points <= 31);
    int w = second.points;
    Design made = new Design(first.points * w);
    for (int a = 0; a < first.points; a++) {
      for (TreeSet<Integer> block : second.blocks) {
        TreeSet<Integer> moved = new TreeSet<>();
        for (int b : block) {
          moved.add(w * a + b);
        }
        made.blocks.add(moved);
      }
    }
    for (int b = 0; b < w; b++) {
      for (TreeSet<Integer> block : first.blocks) {
        TreeSet<Integer> moved = new TreeSet<>();
        for (int a : block) {
          moved.add(w * a + b);
        }
        made.blocks.add(moved);
      }
    }
    for (TreeSet<Integer> block : first.blocks) {
      List<Integer> a = new ArrayList<>(block);
      for (TreeSet<Integer> beside : second.blocks) {
        for (int p : beside) {
          for (int q : beside) {
            for (int r : beside) {
              if (p != q && q != r && p != r) {
                made.add(w * a.get(0) + p, w * a.get(1) + q, w * a.get(2) + r);
              }
            }
          }
        }
      }
    }
    support(made.blocks.size() <= 160);
    become(0, to, made);
    return made.blocks.size();
  }

  int points(int slot) {
    return design(slot).points;
  }

  int blocks(int slot) {
    return design(slot).blocks.size();
  }

  private TreeSet<Integer> blockOf(int slot, int block) {
    Design held = design(slot);
    find(block >= 0 && block < held.blocks.size());
    return held.blocks.get(block);
  }

  int bitsOf(int slot, int block) {
    return bitsOf(blockOf(slot, block));
  }

  private static int with(Design design, int one, int other) {
    int count = 0;
    for (TreeSet<Integer> block : design.blocks) {
      count += block.contains(one) && block.contains(other) ? 1 : 0;
    }
    return count;
  }

  int often(int slot, int point) {
    Design held = design(slot);
    find(point >= 0 && point < held.points);
    return with(held, point, point);
  }

  int pairs(int slot, int point, int other) {
    Design held = design(slot);
    find(point >= 0 && point < held.points && other >= 0 && other < held.points);
    return with(held, point, other);
  }

  int meets(int slot, int block, int other) {
    TreeSet<Integer> both = new TreeSet<>(blockOf(slot, block));
    both.retainAll(blockOf(slot, other));
    return both.size();
  }

  int distance(int slot, int block, int other) {
    TreeSet<Integer> either = new TreeSet<>(blockOf(slot, block));
    either.removeAll(blockOf(slot, other));
    TreeSet<Integer> second = new TreeSet<>(blockOf(slot, other));
    second.removeAll(blockOf(slot, block));
    return either.size() + second.size();
  }

  boolean isEven(int slot) {
    Design held = design(slot);
    if (held.points < 2 || held.blocks.isEmpty()) {
      return false;
    }
    Set<Integer> sizes = new HashSet<>();
    for (TreeSet<Integer> block : held.blocks) {
      sizes.add(block.size());
    }
    Set<Integer> counts = new HashSet<>();
    for (int x = 0; x < held.points; x++) {
      for (int y = 0; y < x; y++) {
        counts.add(with(held, x, y));
      }
    }
    int size = sizes.iterator().next();
    return sizes.size() == 1 && size >= 2 && size < held.points && counts.size() == 1 && !counts.contains(0);
  }

  int fault(int slot) {
    Design held = design(slot);
    TreeSet<Integer> faults = new TreeSet<>();
    for (int x = 0; x < held.points; x++) {
      for (int y = x + 1; y < held.points; y++) {
        if (with(held, x, y) != with(held, 0, 1)) {
          faults.add(100 * x + y);
        }
      }
    }
    return faults.isEmpty() ? -1 : faults.first();
  }

  char cause(int points, int size, int often) {
    argue(points >= 2 && points <= 100000 && size >= 2 && size < points && often >= 1 && often <= 100000);
    BigInteger v = BigInteger.valueOf(points);
    BigInteger k = BigInteger.valueOf(size);
    BigInteger[] r = v.subtract(BigInteger.ONE).multiply(BigInteger.valueOf(often))
        .divideAndRemainder(k.subtract(BigInteger.ONE));
    if (r[1].signum() != 0) {
      return 'r';
    }
    BigInteger[] b = v.multiply(r[0]).divideAndRemainder(k);
    if (b[1].signum() != 0) {
      return 'b';
    }
    if (b[0].compareTo(v) < 0) {
      return 'f';
    }
    BigInteger rest = BigInteger.valueOf(size - often);
    boolean isSquare = rest.signum() >= 0 && rest.sqrt().multiply(rest.sqrt()).equals(rest);
    return b[0].equals(v) && points % 2 == 0 && !isSquare ? 's' : '-';
  }

  int rest(int slot, int to) {
    check(0, slot, to);
    Design held = design(slot);
    Design made = new Design(held.points);
    for (TreeSet<Integer> block : held.blocks) {
      TreeSet<Integer> left = new TreeSet<>();
      for (int i = 0; i < held.points; i++) {
        left.add(i);
      }
      left.removeAll(block);
      support(!left.isEmpty());
      made.blocks.add(left);
    }
    become(0, to, made);
    return made.blocks.size();
  }

  int dual(int slot, int to) {
    check(0, slot, to);
    Design held = design(slot);
    support(!held.blocks.isEmpty() && held.blocks.size() <= 31);
    Design made = new Design(held.blocks.size());
    for (int point = 0; point < held.points; point++) {
      TreeSet<Integer> block = new TreeSet<>();
      for (int i = 0; i < held.blocks.size(); i++) {
        if (held.blocks.get(i).contains(point)) {
          block.add(i);
        }
      }
      support(!block.isEmpty());
      made.blocks.add(block);
    }
    become(0, to, made);
    return made.points;
  }

  int part(int slot, int block, boolean isWithin, int to) {
    check(0, slot, to);
    TreeSet<Integer> chosen = blockOf(slot, block);
    Design held = design(slot);
    List<Integer> left = new ArrayList<>();
    for (int i = 0; i < held.points; i++) {
      if (chosen.contains(i) == isWithin) {
        left.add(i);
      }
    }
    support(!left.isEmpty());
    Design made = new Design(left.size());
    for (int i = 0; i < held.blocks.size(); i++) {
      TreeSet<Integer> anew = new TreeSet<>();
      for (int point : held.blocks.get(i)) {
        if (left.contains(point)) {
          anew.add(left.indexOf(point));
        }
      }
      if (i != block && !anew.isEmpty()) {
        made.blocks.add(anew);
      }
    }
    become(0, to, made);
    return made.blocks.size();
  }

  private static void addCovers(Design design, TreeSet<Integer> open, TreeSet<Integer> chosen,
      List<List<Integer>> found) {
    if (found.size() > 60) {
      return;
    }
    if (open.isEmpty()) {
      found.add(new ArrayList<>(chosen));
      return;
    }
    for (int i = 0; i < design.blocks.size(); i++) {
      TreeSet<Integer> block = design.blocks.get(i);
      if (block.contains(open.first()) && open.containsAll(block)) {
        TreeSet<Integer> left = new TreeSet<>(open);
        left.removeAll(block);
        TreeSet<Integer> more = new TreeSet<>(chosen);
        more.add(i);
        addCovers(design, left, more, found);
      }
    }
  }

  private static int firstUnlike(List<Integer> one, List<Integer> other) {
    for (int i = 0; i < Math.min(one.size(), other.size()); i++) {
      if (!one.get(i).equals(other.get(i))) {
        return Integer.compare(one.get(i), other.get(i));
      }
    }
    return 0;
  }

  private List<List<Integer>> coversOf(int slot, int most) {
    Design held = design(slot);
    support(held.blocks.size() <= most);
    TreeSet<Integer> open = new TreeSet<>();
    for (int i = 0; i < held.points; i++) {
      open.add(i);
    }
    List<List<Integer>> found = new ArrayList<>();
    addCovers(held, open, new TreeSet<>(), found);
    support(found.size() <= 60);
    Collections.sort(found, PlainOffice::firstUnlike);
    return found;
  }

  int covers(int slot) {
    return coversOf(slot, 40).size();
  }

  int coverSize(int slot, int index) {
    List<List<Integer>> found = coversOf(slot, 40);
    argue(index >= 0 && index < found.size());
    return found.get(index).size();
  }

  int coverAt(int slot, int index, int place) {
    List<List<Integer>> found = coversOf(slot, 40);
    argue(index >= 0 && index < found.size() && place >= 0 && place < found.get(index).size());
    return found.get(index).get(place);
  }

  private static boolean canPart(List<List<Integer>> covers, Set<Integer> left) {
    if (left.isEmpty()) {
      return true;
    }
    int first = Collections.max(left);
    for (List<Integer> cover : covers) {
      if (cover.contains(first) && left.containsAll(cover)) {
        Set<Integer> rest = new HashSet<>(left);
        rest.removeAll(cover);
        if (canPart(covers, rest)) {
          return true;
        }
      }
    }
    return false;
  }

  boolean isParted(int slot) {
    List<List<Integer>> found = coversOf(slot, 14);
    Set<Integer> all = new HashSet<>();
    for (int i = 0; i < design(slot).blocks.size(); i++) {
      all.add(i);
    }
    return canPart(found, all);
  }

  private static Map<Integer, Integer> timesOf(Design design, int[] goals) {
    Map<Integer, Integer> times = new HashMap<>();
    for (TreeSet<Integer> block : design.blocks) {
      int bits = 0;
      for (int point : block) {
        bits |= 1 << goals[point];
      }
      times.merge(bits, 1, Integer::sum);
    }
    return times;
  }

  private static int countWays(Design design, int[] goals, int next, Map<Integer, Integer> want) {
    if (next == goals.length) {
      return timesOf(design, goals).equals(want) ? 1 : 0;
    }
    int count = 0;
    for (int i = next; i < goals.length; i++) {
      swap(goals, next, i);
      count += countWays(design, goals, next + 1, want);
      swap(goals, next, i);
    }
    return count;
  }

  private static void swap(int[] goals, int one, int other) {
    int held = goals[one];
    goals[one] = goals[other];
    goals[other] = held;
  }

  int ways(int slot) {
    Design held = design(slot);
    support(held.points <= 7);
    int[] goals = new int[held.points];
    for (int i = 0; i < goals.length; i++) {
      goals[i] = i;
    }
    return countWays(held, goals, 0, timesOf(held, goals));
  }

  // ---- tables

  private static int unlike(int[][] table) {
    Set<Integer> signs = new HashSet<>();
    for (int[] row : table) {
      for (int sign : row) {
        signs.add(sign);
      }
    }
    return signs.size();
  }

  int shifts(int slot, int order, int a, int b) {
    check(1, slot);
    argue(order >= 2 && order <= 9 && a >= 0 && a < order && b >= 0 && b < order);
    int[][] made = new int[order][order];
    for (int row = 0; row < order; row++) {
      for (int column = 0; column < order; column++) {
        made[row][column] = (row * a + column * b) % order;
      }
    }
    become(1, slot, made);
    return unlike(made);
  }

  int field(int slot, int order, int by) {
    check(1, slot);
    argue(isLevels(order) && by >= 0 && by < order);
    int[][] made = new int[order][order];
    for (int row = 0; row < order; row++) {
      for (int column = 0; column < order; column++) {
        made[row][column] = plus(order, times(order, row, by), column);
      }
    }
    become(1, slot, made);
    return unlike(made);
  }

  int setCell(int slot, int row, int column, int sign) {
    int old = cell(slot, row, column);
    argue(sign >= 0 && sign < table(slot).length);
    int[][] made = (int[][]) copyOf(table(slot));
    made[row][column] = sign;
    become(1, slot, made);
    return old;
  }

  int order(int slot) {
    return table(slot).length;
  }

  int cell(int slot, int row, int column) {
    int order = table(slot).length;
    find(row >= 0 && row < order && column >= 0 && column < order);
    return table(slot)[row][column];
  }

  private static boolean isSquareTable(int[][] table) {
    for (int i = 0; i < table.length; i++) {
      Set<Integer> row = new HashSet<>();
      Set<Integer> column = new HashSet<>();
      for (int j = 0; j < table.length; j++) {
        row.add(table[i][j]);
        column.add(table[j][i]);
      }
      if (row.size() < table.length || column.size() < table.length) {
        return false;
      }
    }
    return true;
  }

  boolean isSquare(int slot) {
    return isSquareTable(table(slot));
  }

  int turn(int slot, boolean isBySigns, int to) {
    check(1, slot, to);
    int[][] old = table(slot);
    support(!isBySigns || isSquareTable(old));
    int[][] made = new int[old.length][old.length];
    for (int row = 0; row < old.length; row++) {
      for (int column = 0; column < old.length; column++) {
        if (isBySigns) {
          made[row][old[row][column]] = column;
        } else {
          made[column][row] = old[row][column];
        }
      }
    }
    become(1, to, made);
    return made[0][0];
  }

  private static boolean isApart(int[][] one, int[][] other) {
    Set<List<Integer>> seen = new HashSet<>();
    for (int row = 0; row < one.length; row++) {
      for (int column = 0; column < one.length; column++) {
        seen.add(Arrays.asList(one[row][column], other[row][column]));
      }
    }
    return seen.size() == one.length * one.length;
  }

  boolean areApart(int slot, int other) {
    check(1, slot, other);
    int[][] one = table(slot);
    int[][] two = table(other);
    support(isSquareTable(one) && isSquareTable(two) && one.length == two.length);
    return isApart(one, two);
  }

  private static int countTransversals(int[][] table, List<Integer> columns, List<Integer> signs) {
    int row = columns.size();
    if (row == table.length) {
      return 1;
    }
    int count = 0;
    for (int column = 0; column < table.length; column++) {
      if (!columns.contains(column) && !signs.contains(table[row][column])) {
        List<Integer> more = new ArrayList<>(columns);
        more.add(column);
        List<Integer> seen = new ArrayList<>(signs);
        seen.add(table[row][column]);
        count += countTransversals(table, more, seen);
      }
    }
    return count;
  }

  int transversals(int slot) {
    int[][] held = table(slot);
    support(isSquareTable(held) && held.length <= 7);
    return countTransversals(held, new ArrayList<>(), new ArrayList<>());
  }

  int planeOf(int set, int to) {
    check(0, to);
    for (int slot : setOf(set)) {
      check(1, slot);
    }
    find(set != 0);
    List<int[][]> squares = new ArrayList<>();
    for (int slot : setOf(set)) {
      squares.add(table(slot));
    }
    int order = squares.get(0).length;
    for (int[][] square : squares) {
      support(isSquareTable(square) && square.length == order);
    }
    support(order <= 5 && squares.size() == order - 1);
    for (int i = 0; i < squares.size(); i++) {
      for (int j = 0; j < i; j++) {
        support(isApart(squares.get(i), squares.get(j)));
      }
    }
    Design made = new Design(order * order);
    for (int kind = 0; kind < squares.size() + 2; kind++) {
      for (int sign = 0; sign < order; sign++) {
        TreeSet<Integer> block = new TreeSet<>();
        for (int x = 0; x < order; x++) {
          for (int y = 0; y < order; y++) {
            int there = kind < squares.size() ? squares.get(kind)[x][y] : kind == squares.size() ? x : y;
            if (there == sign) {
              block.add(order * x + y);
            }
          }
        }
        made.blocks.add(block);
      }
    }
    become(0, to, made);
    return made.blocks.size();
  }

  // ---- rows of signs

  int doubled(int slot, int times) {
    check(2, slot);
    argue(times >= 0 && times <= 4);
    int[][] made = {{1}};
    for (int i = 0; i < times; i++) {
      int n = made.length;
      int[][] next = new int[2 * n][2 * n];
      for (int row = 0; row < n; row++) {
        for (int column = 0; column < n; column++) {
          next[row][column] = made[row][column];
          next[row][n + column] = made[row][column];
          next[n + row][column] = made[row][column];
          next[n + row][n + column] = -made[row][column];
        }
      }
      made = next;
    }
    become(2, slot, made);
    return made.length;
  }

  int primes(int slot, int prime) {
    check(2, slot);
    argue(prime == 3 || prime == 7 || prime == 11 || prime == 19 || prime == 23);
    Set<Integer> squares = new HashSet<>();
    for (int i = 0; i < prime; i++) {
      squares.add(i * i % prime);
    }
    int[][] made = new int[prime + 1][prime + 1];
    for (int row = 0; row <= prime; row++) {
      for (int column = 0; column <= prime; column++) {
        boolean isOne = row == 0 || column == 0
            || row != column && !squares.contains((column - row + prime) % prime);
        made[row][column] = isOne ? 1 : -1;
      }
    }
    become(2, slot, made);
    return made.length;
  }

  int sign(int slot, int row, int column) {
    int[][] held = rows(slot);
    find(row >= 0 && row < held.length && column >= 0 && column < held.length);
    return held[row][column];
  }

  int flip(int slot, boolean isRow, int index) {
    int[][] made = (int[][]) copyOf(rows(slot));
    find(index >= 0 && index < made.length);
    int ones = 0;
    for (int i = 0; i < made.length; i++) {
      int row = isRow ? index : i;
      int column = isRow ? i : index;
      made[row][column] = -made[row][column];
      ones += made[row][column] == 1 ? 1 : 0;
    }
    become(2, slot, made);
    return ones;
  }

  boolean areRowsApart(int slot) {
    int[][] held = rows(slot);
    for (int i = 0; i < held.length; i++) {
      for (int j = 0; j < i; j++) {
        int sum = 0;
        for (int k = 0; k < held.length; k++) {
          sum += held[i][k] * held[j][k];
        }
        if (sum != 0) {
          return false;
        }
      }
    }
    return true;
  }

  int designOf(int slot, int to) {
    check(2, slot);
    check(0, to);
    int[][] held = rows(slot);
    support(held.length >= 4);
    Design made = new Design(held.length - 1);
    for (int row = 1; row < held.length; row++) {
      TreeSet<Integer> block = new TreeSet<>();
      for (int column = 1; column < held.length; column++) {
        if (held[row][column] == held[row][0]) {
          block.add(column - 1);
        }
      }
      support(!block.isEmpty());
      made.blocks.add(block);
    }
    become(0, to, made);
    return made.blocks.size();
  }

  // ---- days and settings

  private static boolean doMeet(int n, int round, int one, int other) {
    int lesser = Math.min(one, other);
    int greater = Math.max(one, other);
    int sum = greater == n - 1 ? 2 * lesser : lesser + greater;
    return one != other && sum % (n - 1) == round % (n - 1);
  }

  int plays(int teams, int round, int team) {
    argue(teams >= 2 && teams <= 20 && teams % 2 == 0);
    argue(round >= 0 && round <= teams - 2 && team >= 0 && team < teams);
    int met = -1;
    for (int other = 0; other < teams; other++) {
      if (doMeet(teams, round, team, other)) {
        if (met >= 0) {
          throw new AssertionError("two meetings at once");
        }
        met = other;
      }
    }
    return met;
  }

  boolean isHome(int teams, int round, int team) {
    int other = plays(teams, round, team);
    if (team == teams - 1) {
      return round % 2 == 0;
    }
    if (other == teams - 1) {
      return round % 2 == 1;
    }
    int home = Math.abs(team - other) % 2 == 1 ? Math.min(team, other) : Math.max(team, other);
    return home == team;
  }

  int breaks(int teams) {
    argue(teams >= 2 && teams <= 20 && teams % 2 == 0);
    int count = 0;
    for (int round = 0; round + 1 <= teams - 2; round++) {
      for (int team = 0; team < teams; team++) {
        count += isHome(teams, round, team) == isHome(teams, round + 1, team) ? 1 : 0;
      }
    }
    return count;
  }

  int setting(int levels, int row, int factor) {
    argue(isLevels(levels) && row >= 0 && row < levels * levels && factor >= 0 && factor <= levels);
    int a = row / levels;
    return factor == levels ? a : plus(levels, times(levels, a, factor), row - a * levels);
  }

  int unmet(int levels, int factors, int rows) {
    argue(isLevels(levels) && factors >= 2 && factors <= levels + 1 && rows >= 0 && rows <= levels * levels);
    int count = 0;
    for (int f = 0; f < factors; f++) {
      for (int g = 0; g < f; g++) {
        Set<Integer> met = new HashSet<>();
        for (int row = 0; row < rows; row++) {
          met.add(levels * setting(levels, row, f) + setting(levels, row, g));
        }
        count += levels * levels - met.size();
      }
    }
    return count;
  }

  // ---- the text, the past

  int type(char sign) {
    argue(sign >= 32 && sign <= 126);
    if (text.length() == 120) {
      throw new IllegalStateException();
    }
    text += sign;
    return text.length();
  }

  int erase() {
    int length = text.length();
    text = "";
    return length;
  }

  /** The design that a text tells, or the fault as an Integer. */
  private static Object parse(String text) {
    Design made = null;
    TreeSet<Integer> block = new TreeSet<>();
    int place = 0;
    while (true) {
      int start = place;
      while (place < text.length() && Character.isDigit(text.charAt(place))) {
        place++;
      }
      if (place == start) {
        return start;
      }
      BigInteger number = new BigInteger(text.substring(start, place));
      boolean isSmall = number.bitLength() < 10;
      int value = isSmall ? number.intValue() : 999;
      char next = place < text.length() ? text.charAt(place) : '.';
      boolean isEnd = place == text.length();
      if (made == null) {
        if (value < 1 || value > 31) {
          return start;
        }
        made = new Design(value);
        if (!isEnd && next != ':') {
          return place;
        }
      } else {
        if (value >= made.points || !block.add(value)) {
          return start;
        }
        if (isEnd || next == ';') {
          made.blocks.add(block);
          block = new TreeSet<>();
        } else if (next != ',') {
          return place;
        }
      }
      if (isEnd) {
        return made;
      }
      place++;
    }
  }

  int read(int slot) {
    check(0, slot);
    Object told = parse(text);
    text = "";
    if (told instanceof Integer) {
      return -1 - (Integer) told;
    }
    become(0, slot, told);
    return ((Design) told).blocks.size();
  }

  int undo() {
    find(!past.isEmpty());
    Object[] last = past.removeLast();
    slots[(Integer) last[0]][(Integer) last[1]] = last[2];
    return past.size();
  }

  // ---- figures

  double meanSize(int slot) {
    Design held = design(slot);
    if (held.blocks.isEmpty()) {
      throw new ArithmeticException();
    }
    int sum = 0;
    for (TreeSet<Integer> block : held.blocks) {
      sum += block.size();
    }
    return (double) sum / (double) held.blocks.size();
  }

  float pairShare(int slot) {
    Design held = design(slot);
    if (held.points == 1) {
      throw new ArithmeticException();
    }
    int met = 0;
    int all = 0;
    for (int x = 0; x < held.points; x++) {
      for (int y = 0; y < x; y++) {
        all++;
        met += with(held, x, y) > 0 ? 1 : 0;
      }
    }
    return (float) met / (float) all;
  }

  long checksum() {
    List<Integer> numbers = new ArrayList<>();
    for (Object held : slots[0]) {
      numbers.add(held == null ? 0 : ((Design) held).points);
      if (held != null) {
        for (TreeSet<Integer> block : ((Design) held).blocks) {
          numbers.add(bitsOf(block));
        }
      }
    }
    for (int kind = 1; kind < 3; kind++) {
      for (Object held : slots[kind]) {
        numbers.add(held == null ? 0 : ((int[][]) held).length);
        if (held != null) {
          for (int[] row : (int[][]) held) {
            for (int sign : row) {
              numbers.add(sign);
            }
          }
        }
      }
    }
    for (char sign : text.toCharArray()) {
      numbers.add((int) sign);
    }
    BigInteger sum = BigInteger.valueOf(7);
    for (int number : numbers) {
      sum = sum.multiply(BigInteger.valueOf(31)).add(BigInteger.valueOf(number));
    }
    return sum.longValue();
  }
}
