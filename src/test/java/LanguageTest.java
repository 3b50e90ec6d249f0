import java.io.IOException;
import java.nio.charset.StandardCharsets;
import java.nio.file.Files;
import java.nio.file.Path;
import java.util.List;
import java.util.regex.Matcher;
import java.util.regex.Pattern;

/** What of LANGUAGE.md the program's text shows: words that may not stand in it, and its sizes. */
public final class LanguageTest {
  private static final Path PROGRAM = Path.of("src", "main", "java", "SkippingKeys.java");
  private static final String[] FORBIDDEN = {
    "\\bimport\\b", "\\bpackage\\b", "\\btry\\b", "\\bcatch\\b", "\\bfinally\\b", "\\bthrow\\b",
    "\\bthrows\\b", "\\bsynchronized\\b", "\\bassert\\b", "\\bprotected\\b", "\\bvolatile\\b",
    "->", "::", "@\\w", "\\bSystem\\.(?!arraycopy\\b)", "Exact\\b", "\\bThread\\b", "\\bObject\\b",
    "\\bequals\\b", "\\bhashCode\\b", "\\btoString\\b", "\\bdouble\\b", "\\bfloat\\b",
    "\\bstatic\\s*\\{", "\\bnull\\b", "\\[\\]\\s*\\["
  };
  private static final int MOST_LINES = 60;
  private static final int MOST_CLASSES = 12;
  private static final int MOST_ARGUMENTS = 7;

  public static void main(String[] args) throws IOException {
    Checks checks = new Checks("LanguageTest");
    String text = Files.readString(PROGRAM, StandardCharsets.UTF_8);
    String code = withoutComments(text);
    for (String word : FORBIDDEN) {
      Matcher found = Pattern.compile(word).matcher(code);
      checks.same("the word " + word, found.find() ? found.group() : "", "");
    }
    for (int i = 0; i < text.length(); i++) {
      if (text.charAt(i) > 126) {
        checks.same("the sign at " + i, "" + (int) text.charAt(i), "1 to 126");
      }
    }
    int classes = 0;
    Matcher types = Pattern.compile("\\b(class|enum|interface|record)\\s+\\w").matcher(code);
    while (types.find()) {
      classes++;
    }
    checks.due("twelve classes at most", classes <= MOST_CLASSES ? 1 : 0, 1);
    checkStatics(checks, code);
    checkMethods(checks, text.lines().toList());
    checks.end();
  }

  private static String withoutComments(String text) {
    return text.replaceAll("(?s)/\\*.*?\\*/", " ").replaceAll("//[^\\n]*", " ");
  }

  /** A static field is a constant. */
  private static void checkStatics(Checks checks, String code) {
    Matcher fields = Pattern.compile("\\bstatic\\s+([^;{(=]*)[=;]").matcher(code);
    int found = 0;
    while (fields.find()) {
      found++;
      checks.due("final: " + fields.group(), fields.group(1).startsWith("final ") ? 1 : 0, 1);
    }
    checks.due("there are static fields", found > 0 ? 1 : 0, 1);
  }

  /** A method goes from a line that ends with ") {" to the first "}" as far in as that is. */
  private static void checkMethods(Checks checks, List<String> lines) {
    Pattern head = Pattern.compile("^(  |    )(public |private |static |final )*[\\w\\[\\]]+ ?"
        + "\\w*\\((.*)\\) \\{$");
    int methods = 0;
    for (int i = 0; i < lines.size(); i++) {
      Matcher found = head.matcher(lines.get(i));
      if (found.matches()) {
        methods++;
        int end = i;
        while (!lines.get(end).equals(found.group(1) + "}")) {
          end++;
        }
        checks.due("sixty lines at most: " + lines.get(i), end - i < MOST_LINES ? 1 : 0, 1);
        checks.due("seven arguments at most: " + lines.get(i),
            found.group(3).split(",").length <= MOST_ARGUMENTS ? 1 : 0, 1);
      }
    }
    checks.due("there are methods", methods > 54 ? 1 : 0, 1);
  }
}
