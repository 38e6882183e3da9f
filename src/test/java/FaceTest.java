import java.lang.reflect.Constructor;
import java.lang.reflect.Field;
import java.lang.reflect.Method;
import java.lang.reflect.Modifier;
import java.util.ArrayList;
import java.util.Arrays;
import java.util.Collections;
import java.util.HashSet;
import java.util.List;
import java.util.Set;

/** The public face is that of the document, with nothing more. */
final class FaceTest {
  private static final String I = "IndexOutOfBoundsException";
  private static final String N = "NoSuchElementException";
  private static final String A = "IllegalArgumentException";
  private static final String S = "IllegalStateException";
  private static final String U = "UnsupportedOperationException";
  private static final String M = "ArithmeticException";

  private static final String[] FACE = {
    line("int blank(int,int)", I, A), line("int block(int,int)", I, N, A, S), line("int shift(int,int,int)", I, A),
    line("int affine(int,int)", I, A), line("int projective(int,int)", I, A), line("int bose(int,int)", I, A),
    line("int skolem(int,int)", I, A), line("int product(int,int,int)", I, N, U), line("int points(int)", I, N),
    line("int blocks(int)", I, N), line("int bitsOf(int,int)", I, N), line("int often(int,int)", I, N),
    line("int pairs(int,int,int)", I, N), line("int meets(int,int,int)", I, N),
    line("int distance(int,int,int)", I, N), line("boolean isEven(int)", I, N), line("int fault(int)", I, N),
    line("char cause(int,int,int)", A), line("int rest(int,int)", I, N, U), line("int dual(int,int)", I, N, U),
    line("int part(int,int,boolean,int)", I, N, U), line("int covers(int)", I, N, U),
    line("int coverSize(int,int)", I, N, U, A), line("int coverAt(int,int,int)", I, N, U, A),
    line("boolean isParted(int)", I, N, U), line("int ways(int)", I, N, U), line("int shifts(int,int,int,int)", I, A),
    line("int field(int,int,int)", I, A), line("int setCell(int,int,int,int)", I, N, A), line("int order(int)", I, N),
    line("int cell(int,int,int)", I, N), line("boolean isSquare(int)", I, N),
    line("int turn(int,boolean,int)", I, N, U), line("boolean areApart(int,int)", I, N, U),
    line("int transversals(int)", I, N, U), line("int planeOf(int,int)", I, N, U), line("int doubled(int,int)", I, A),
    line("int primes(int,int)", I, A), line("int sign(int,int,int)", I, N), line("int flip(int,boolean,int)", I, N),
    line("boolean areRowsApart(int)", I, N), line("int designOf(int,int)", I, N, U), line("int plays(int,int,int)", A),
    line("boolean isHome(int,int,int)", A), line("int breaks(int)", A), line("int setting(int,int,int)", A),
    line("int unmet(int,int,int)", A), line("int type(char)", A, S), line("int erase()"), line("int read(int)", I),
    line("int undo()", N), line("double meanSize(int)", I, N, M), line("float pairShare(int)", I, N, M),
    line("long checksum()"), line("boolean isTrue()"),
  };

  private FaceTest() {
  }

  private static String line(String call, String... thrown) {
    return call + " " + Arrays.asList(thrown);
  }

  private static String lineOf(Method method) {
    StringBuilder line = new StringBuilder(method.getReturnType().getSimpleName());
    line.append(' ').append(method.getName()).append('(');
    for (Class<?> type : method.getParameterTypes()) {
      line.append(line.charAt(line.length() - 1) == '(' ? "" : ",").append(type.getSimpleName());
    }
    List<String> thrown = new ArrayList<>();
    for (Class<?> type : method.getExceptionTypes()) {
      thrown.add(type.getSimpleName());
    }
    return line.append(") ").append(thrown).toString();
  }

  private static void methods() {
    List<String> want = new ArrayList<>(Arrays.asList(FACE));
    List<String> got = new ArrayList<>();
    for (Method method : DesignsOffice.class.getDeclaredMethods()) {
      if (!Modifier.isPrivate(method.getModifiers())) {
        got.add(lineOf(method));
        Check.same(method.getName() + " is public and of the object", Modifier.PUBLIC, method.getModifiers());
      }
    }
    Collections.sort(want);
    Collections.sort(got);
    Check.same("the face", want, got);
  }

  private static void noMembersBeside() {
    Check.same("the class", Modifier.PUBLIC | Modifier.FINAL, DesignsOffice.class.getModifiers());
    for (Field field : DesignsOffice.class.getDeclaredFields()) {
      Check.same(field + " is private", true, Modifier.isPrivate(field.getModifiers()));
      Check.same(field + " is final, if static", true,
          !Modifier.isStatic(field.getModifiers()) || Modifier.isFinal(field.getModifiers()));
    }
    Constructor<?>[] made = DesignsOffice.class.getDeclaredConstructors();
    Check.same("constructors", 1, made.length);
    Check.same("the constructor is public", Modifier.PUBLIC, made[0].getModifiers());
    Check.same("its parameters", 0, made[0].getParameterCount());
  }

  private static void noNameTwice() {
    Set<String> names = new HashSet<>();
    for (Method method : DesignsOffice.class.getDeclaredMethods()) {
      Check.same(method.getName() + " is new", true, names.add(method.getName()));
    }
    for (Class<?> inside : DesignsOffice.class.getDeclaredClasses()) {
      for (Method method : inside.getDeclaredMethods()) {
        for (String face : FACE) {
          Check.same(method + " has no name of the face", false, face.contains(" " + method.getName() + "("));
        }
      }
      Check.same(inside + " is static", true, Modifier.isStatic(inside.getModifiers()));
      Check.same(inside + " is not public", false, Modifier.isPublic(inside.getModifiers()));
    }
  }

  public static void main(String[] args) {
    Check.test("the methods of the face", FaceTest::methods);
    Check.test("no members beside the face", FaceTest::noMembersBeside);
    Check.test("no name of the face twice", FaceTest::noNameTwice);
    Check.end();
  }
}
