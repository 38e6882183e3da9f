import java.io.IOException;
import java.lang.reflect.InvocationTargetException;
import java.lang.reflect.Method;
import java.nio.charset.StandardCharsets;
import java.nio.file.Files;
import java.nio.file.Path;
import java.nio.file.Paths;
import java.util.regex.Matcher;
import java.util.regex.Pattern;

/** The calls that README.md shows answer what it tells, asked one behind the other of one office. */
final class ReadmeTest {
  private static final Pattern LINE = Pattern.compile("(?m)^office\\.(\\w+)\\(([^)]*)\\); +// ([-\\w]+)");

  private ReadmeTest() {
  }

  private static Object argument(String told) {
    if (told.startsWith("'")) {
      return told.charAt(1);
    }
    return Integer.valueOf(told);
  }

  private static Object answer(DesignsOffice office, String name, String told) throws IllegalAccessException {
    String[] parts = told.split(", ");
    Object[] arguments = new Object[told.isEmpty() ? 0 : parts.length];
    for (int i = 0; i < arguments.length; i++) {
      arguments[i] = argument(parts[i]);
    }
    for (Method method : DesignsOffice.class.getMethods()) {
      if (method.getName().equals(name)) {
        try {
          return method.invoke(office, arguments);
        } catch (InvocationTargetException e) {
          return e.getCause().getClass().getSimpleName();
        }
      }
    }
    return "no such call";
  }

  private static void example(String readme) throws IllegalAccessException {
    DesignsOffice office = new DesignsOffice();
    Matcher line = LINE.matcher(readme);
    int lines = 0;
    while (line.find()) {
      lines++;
      Check.same(line.group(), line.group(3), String.valueOf(answer(office, line.group(1), line.group(2))));
    }
    Check.same("lines of README.md that tell a call", readme.split("(?m)^office\\.").length - 1, lines);
    Check.same("some lines are told", true, lines > 10);
  }

  public static void main(String[] args) throws IOException {
    Path path = Paths.get("README.md");
    String readme = new String(Files.readAllBytes(path), StandardCharsets.UTF_8);
    Check.test("the calls that README.md shows", () -> {
      try {
        example(readme);
      } catch (IllegalAccessException e) {
        throw new AssertionError(e);
      }
    });
    Check.end();
  }
}
