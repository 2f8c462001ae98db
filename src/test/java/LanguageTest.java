import java.io.IOException;
import java.nio.file.Files;
import java.nio.file.Path;
import java.util.regex.Matcher;
import java.util.regex.Pattern;

/** Those rules of LANGUAGE.md that can be seen in the source's words: what may not stand in it, and how long it gets. */
public final class LanguageTest {
  private static final String[] NEVER = {"\\b(throw|throws|try|catch|finally|synchronized|assert|import|package)\\b", "->", "::",
      "\\b(hashCode|toString|native|volatile|transient|strictfp|Object|System\\.(?!arraycopy)|Thread|Random)\\b", "\\w+Exact\\(",
      "\\bwhile *\\( *true", "for *\\( *; *; *\\)", "\\bprotected\\b", "[^\\x00-\\x7f]"};

  public static void main(String[] args) throws IOException {
    Check check = new Check("language");
    String source = Files.readString(Path.of("src/main/java/HaltRing.java"));
    String code = source.replaceAll("(?s)/\\*.*?\\*/", "").replaceAll("//[^\n]*", "").replaceAll("\"[^\"]*\"", "\"\"");
    for (String never : NEVER) {
      Matcher m = Pattern.compile(never).matcher(code);
      check.due(never + (m.find() ? " stands in: " + line(code, m.start()) : ""), !m.find(0));
    }
    check.due("classes", count(code, "\\bclass \\w+") <= 12);
    Matcher heads = Pattern.compile("(?m)^( {4}| {8})(?:[\\w\\[\\]]+ )*\\w+\\(([^)]*)\\) \\{$").matcher(code);
    int methods = 0;
    while (heads.find()) {
      methods++;
      int end = code.indexOf("\n" + heads.group(1) + "}", heads.start());
      int lines = count(code.substring(heads.start(), end), "\n") + 1;
      check.due(heads.group() + " has " + lines + " lines", lines <= 60);
      check.due(heads.group() + " has its parameters", heads.group(2).split(",").length <= 7);
    }
    check.due("methods were found: " + methods, methods > 80);
    check.end();
  }

  private static int count(String text, String pattern) { return (int) Pattern.compile(pattern).matcher(text).results().count(); }

  private static String line(String text, int at) {
    int end = text.indexOf('\n', at);
    return text.substring(text.lastIndexOf('\n', at) + 1, end < 0 ? text.length() : end).trim();
  }
}
