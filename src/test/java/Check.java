/** Counts the tests of a program; a test is a name and what it found wrong. */
final class Check {
  /** A call whose answer is compared, or the exception that it throws. */
  interface Call {
    Object run();
  }

  /** A test of its own. */
  interface Test {
    void run();
  }

  private static int passed = 0;
  private static int failed = 0;
  private static int wrong = 0;

  private Check() {
  }

  static void test(String name, Test test) {
    wrong = 0;
    try {
      test.run();
    } catch (Throwable e) {
      wrong++;
      System.out.println("  threw " + e);
      e.printStackTrace(System.out);
    }
    if (wrong == 0) {
      passed++;
    } else {
      failed++;
      System.out.println("FAILED: " + name);
    }
  }

  /** The answer of a call, or the name of the exception that it throws. */
  static Object answer(Call call) {
    try {
      return call.run();
    } catch (RuntimeException e) {
      return e.getClass().getSimpleName();
    }
  }

  static void due(String what, Object want, Call call) {
    same(what, want, answer(call));
  }

  static void same(String what, Object want, Object got) {
    if (!want.equals(got)) {
      wrong++;
      System.out.println("  " + what + " answered " + got + ", due is " + want);
    }
  }

  /** Ends the program with the line that .ci/run adds up. */
  static void end() {
    System.out.println(passed + " passed, " + failed + " failed");
    System.exit(failed == 0 ? 0 : 1);
  }
}
