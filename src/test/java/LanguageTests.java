import java.io.IOException;
import java.nio.file.Files;
import java.nio.file.Path;
import java.util.ArrayList;
import java.util.List;
import java.util.regex.Matcher;
import java.util.regex.Pattern;

/** Looks through the text of the class for what the language of the project leaves out. */
public final class LanguageTests {
  private static int wrong = 0;

  public static void main(String[] args) throws IOException {
    String source = Files.readString(Path.of(args[0]));
    String code = withoutCommentsAndTexts(source);
    none(code, 4, "import (?!java\\.util\\.(Arrays|ArrayList|List|Iterator);)");
    none(code, 6, "\\b(throw|throws|try|catch|finally|synchronized|assert|yield)\\b");
    none(code, 6, "\\b(equals|hashCode|toString)\\s*\\([^)]*\\)\\s*\\{");
    none(code, 2, "->|::");
    none(code, 2, "new \\w+\\([^)]*\\)\\s*\\{");
    none(code, 5, "\\bstatic\\s*\\{");
    none(code, 4, "\\w+Exact\\b");
    none(code, 13, "\\b(System\\.(?!arraycopy)|Thread|Random|Runtime|File|Object)\\b");
    none(code, 3, "\\b(var|Object|HashMap|Map|Set|Long|Boolean)\\b(?!\\.)");
    none(code, 10, "\"\\s*\\+|\\+\\s*\"");
    none(code, 5, "(?m)^\\s*(private |public )?static (?!final )[\\w\\[\\]]+ \\w+\\s*(=|;)");
    none(code, 1, "(?m)^    (protected |static (?!final class)|final |int |boolean |void )");
    none(code, 4, "(?m)(Math|Integer)\\.(?!max|min|abs|bitCount|compare)\\w+");
    namesOfPublicOnes(code);
    sizes(code);
    System.out.println(wrong == 0 ? "the language is kept" : wrong + " places are outside the language");
    if (wrong != 0) {
      System.exit(1);
    }
  }

  private static void report(int rule, String what) {
    wrong++;
    System.out.println("rule " + rule + ": " + what);
  }

  private static void none(String code, int rule, String pattern) {
    Matcher m = Pattern.compile(pattern).matcher(code);
    while (m.find()) {
      report(rule, "line " + code.substring(0, m.start()).split("\n", -1).length + ": " + m.group().trim());
    }
  }

  private static String withoutCommentsAndTexts(String source) {
    String code = source.replaceAll("\"[^\"\n]*\"", "\"\"").replaceAll("'[^'\n]*'", "' '");
    Matcher m = Pattern.compile("(?s)/\\*.*?\\*/").matcher(code);
    StringBuilder text = new StringBuilder();
    while (m.find()) {
      m.appendReplacement(text, "\n".repeat(m.group().split("\n", -1).length - 1));
    }
    m.appendTail(text);
    return text.toString().replaceAll("//[^\n]*", "");
  }

  private static void namesOfPublicOnes(String code) {
    List<String> names = new ArrayList<>();
    Matcher m = Pattern.compile("(?m)^    public \\w+ (\\w+)\\(").matcher(code);
    while (m.find()) {
      names.add(m.group(1));
    }
    if (names.size() != 31) {
      report(1, names.size() + " public methods");
    }
    m = Pattern.compile("(?m)^\\s+(?:private |static )*(?:int|boolean|void|int\\[\\]|Law) (\\w+)\\(.*\\{").matcher(code);
    while (m.find()) {
      if (names.contains(m.group(1))) {
        report(1, m.group(1) + " bears the name of a public method");
      }
    }
  }

  /** Methods, their parameters, classes and their fields. */
  private static void sizes(String code) {
    String[] lines = code.split("\n", -1);
    int classes = 0;
    int fields = 0;
    int begun = 0;
    String indent = null;
    for (int i = 0; i < lines.length; i++) {
      String line = lines[i];
      if (line.matches("\\s*(public |private |static |final |abstract )*(class|interface|enum|record) .*")) {
        classes++;
        fields = 0;
      } else if (indent == null && line.matches(" +(private |final )*[\\w\\[\\]]+ \\w+( = .*)?;")) {
        fields++;
        if (fields > 20) {
          report(11, "line " + (i + 1) + ": a field too many");
        }
      } else if (indent == null && line.matches(" +[\\w\\[\\] ]+\\(.*\\) \\{")) {
        indent = line.replaceAll("\\S.*", "");
        begun = i;
        if (line.split(",").length > 7) {
          report(11, "line " + (i + 1) + ": more than seven parameters");
        }
      } else if (indent != null && line.equals(indent + "}")) {
        if (i - begun >= 60) {
          report(11, "line " + (begun + 1) + ": a method of " + (i - begun + 1) + " lines");
        }
        indent = null;
      }
    }
    if (classes > 12) {
      report(11, classes + " classes");
    }
  }
}
