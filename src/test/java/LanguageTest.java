import java.io.IOException;
import java.nio.charset.StandardCharsets;
import java.nio.file.Files;
import java.nio.file.Paths;
import java.util.ArrayList;
import java.util.List;
import java.util.regex.Matcher;
import java.util.regex.Pattern;

/** What ../shared/LANGUAGE.md asks of the source, as far as its words tell it. The path of the source is given. */
final class LanguageTest {
  private LanguageTest() {
  }

  private static String withoutComments(String source) {
    return Pattern.compile("/\\*.*?\\*/|//[^\n]*", Pattern.DOTALL).matcher(source).replaceAll("");
  }

  private static void hasNot(String source, String pattern) {
    Matcher matcher = Pattern.compile(pattern).matcher(source);
    Check.same(pattern + " in the source", "none", matcher.find() ? matcher.group() : "none");
  }

  private static void words(String source) {
    String[] forbidden = {"\\btry\\b", "\\bcatch\\b", "\\bfinally\\b", "\\bsynchronized\\b", "\\bassert\\b", "->", "::",
        "\\bExact\\b", "Exact\\(", "\\bpackage\\b", "\\bvar\\b", "\\bThread\\b", "\\bRandom\\b", "System\\.(?!arraycopy)",
        "Math\\.(?!min|max|abs|floorMod|floorDiv)", "\\bObject\\b", "String", "\"", "\\[\\]\\[\\]", "@", "\\bvolatile\\b",
        "static \\{", "\\bprotected\\b", "[^\\x00-\\x7F]"};
    for (String pattern : forbidden) {
      hasNot(source, pattern);
    }
    Matcher imports = Pattern.compile("import [^;]*;").matcher(source);
    while (imports.find()) {
      Check.same("an import", "import java.util.NoSuchElementException;", imports.group());
    }
  }

  private static void staticsAreFinal(String source) {
    for (String line : source.split("\n")) {
      if (line.contains("static ") && line.contains("=") && !line.contains("(")) {
        Check.same(line.trim() + " is final", true, line.contains("static final "));
      }
    }
  }

  /** Only the constructors make objects: so no run of calls can fill the room. */
  private static void nothingIsMadeByCalls(String source) {
    Pattern ofThrow = Pattern.compile("throw new (IndexOutOfBoundsException|NoSuchElementException"
        + "|IllegalArgumentException|IllegalStateException|UnsupportedOperationException|ArithmeticException)\\(\\);");
    Pattern ofField = Pattern.compile("^( {2}private | {4})final [\\w\\[\\]]+ \\w+ = new .*;$");
    Pattern ofConstructor = Pattern.compile("^ {6}\\w+\\[i\\] = new \\w+\\(\\);$");
    for (String line : source.split("\n")) {
      boolean isRight = ofThrow.matcher(line).find() || ofField.matcher(line).find()
          || ofConstructor.matcher(line).find();
      Check.same("what makes something: " + line.trim(), true, isRight || !line.matches(".*\\bnew\\b.*"));
    }
  }

  private static void methodsAreShort(String source) {
    List<String> lines = new ArrayList<>(List.of(source.split("\n")));
    Pattern head = Pattern.compile("^( {2}| {4})(?! )(?!.*\\bclass\\b)[\\w\\[\\] ]+\\(.*$");
    for (int i = 0; i < lines.size(); i++) {
      Matcher matcher = head.matcher(lines.get(i));
      if (matcher.find() && !lines.get(i).contains("=")) {
        int end = i;
        while (!lines.get(end).equals(matcher.group(1) + "}")) {
          end++;
        }
        Check.same(lines.get(i).trim() + " is short", true, end - i <= 60);
        String parameters = lines.get(i).replaceAll("^[^(]*\\(|\\).*$", "");
        Check.same(lines.get(i).trim() + " takes few", true, parameters.split(",").length <= 7);
      }
    }
    Check.same("few classes", true, source.split("\\bclass\\b").length - 1 <= 12);
    for (String line : lines) {
      Check.same("a short line: " + line, true, line.length() <= 120);
    }
  }

  public static void main(String[] args) throws IOException {
    String path = args.length > 0 ? args[0] : "src/main/java/DesignsOffice.java";
    String source = withoutComments(new String(Files.readAllBytes(Paths.get(path)), StandardCharsets.UTF_8));
    Check.test("words that the language has not", () -> words(source));
    Check.test("static fields are final", () -> staticsAreFinal(source));
    Check.test("nothing is made by calls", () -> nothingIsMadeByCalls(source));
    Check.test("methods and classes are short", () -> methodsAreShort(source));
    Check.end();
  }
}
