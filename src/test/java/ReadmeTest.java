import java.io.IOException;
import java.lang.reflect.Method;
import java.lang.reflect.Modifier;
import java.net.URL;
import java.net.URLClassLoader;
import java.nio.file.Files;
import java.nio.file.Path;
import java.util.ArrayList;
import java.util.List;
import java.util.regex.Matcher;
import java.util.regex.Pattern;
import javax.tools.ToolProvider;

/** What README.md says of the class is true: its example, the parts of a board, the names of the methods. */
public final class ReadmeTest {
  private static final Check check = new Check("readme");
  /** A call of the example, with its answer behind it. */
  private static final Pattern ANSWERED = Pattern.compile("(ring\\.\\w+\\(.*\\)); *// (-?\\d+): .*");
  private static final int MOST_CALLS = 512;

  public static void main(String[] args) throws IOException, ReflectiveOperationException {
    String readme = Files.readString(Path.of("README.md"));
    example(between(readme, "```java\n", "\n```"));
    parts(between(readme, "| part | means |", "\n\n"));
    methods(readme);
    check.end();
  }

  private static String between(String text, String begin, String end) {
    int from = text.indexOf(begin);
    int to = from < 0 ? -1 : text.indexOf(end, from + begin.length());
    check.due("README.md has " + begin.trim() + " .. " + end.trim(), to >= 0);
    return to < 0 ? "" : text.substring(from + begin.length(), to);
  }

  private static void example(String code) throws IOException, ReflectiveOperationException {
    List<String> calls = new ArrayList<>();
    List<Long> due = new ArrayList<>();
    StringBuilder body = new StringBuilder();
    for (String line : code.split("\n")) {
      Matcher m = ANSWERED.matcher(line);
      if (m.matches()) {
        calls.add(m.group(1));
        due.add(Long.parseLong(m.group(2)));
        body.append("answers.add((long) ").append(m.group(1)).append(");\n");
      } else {
        check.due("a call stands without its answer: " + line, !line.startsWith("ring."));
        body.append(line).append('\n');
      }
    }
    check.due("the example has calls", calls.size() > 20);
    List<Long> answers = answers(body.toString());
    check.due("answers of the example", answers.size(), calls.size());
    for (int i = 0; i < answers.size() && i < calls.size(); i++) check.due(calls.get(i), answers.get(i), due.get(i));
    for (String name : new String[] {"-1: UNKNOWN", "-2: OUTSIDE", "-3: STATE", "-4: FULL", "-9: NONE"}) {
      check.due("the example shows " + name, code.contains("// " + name));
    }
  }

  /** Compiles the example and runs it, on the class that this test runs on. */
  private static List<Long> answers(String body) throws IOException, ReflectiveOperationException {
    List<Long> answers = new ArrayList<>();
    Path dir = Files.createTempDirectory("readme");
    Path source = dir.resolve("ReadmeExample.java");
    Path made = dir.resolve("ReadmeExample.class");
    Files.writeString(source, "public final class ReadmeExample {\n"
        + "public static void run(java.util.List<Long> answers) {\n" + body + "}\n}\n");
    int status = ToolProvider.getSystemJavaCompiler().run(null, null, null,
        "-cp", System.getProperty("java.class.path"), "-d", dir.toString(), source.toString());
    check.due("the example compiles", status == 0);
    if (status == 0) {
      try (URLClassLoader loader = new URLClassLoader(new URL[] {dir.toUri().toURL()}, ReadmeTest.class.getClassLoader())) {
        loader.loadClass("ReadmeExample").getMethod("run", List.class).invoke(null, answers);
      }
    }
    Files.deleteIfExists(made);
    Files.delete(source);
    Files.delete(dir);
    return answers;
  }

  /** The first column of the table of parts, together and in its order, is a board. */
  private static void parts(String table) {
    StringBuilder text = new StringBuilder("R");
    for (String row : table.split("\n")) {
      String[] columns = row.split("\\|");
      Matcher part = Pattern.compile("`(\\w+)`").matcher(columns.length > 1 ? columns[1] : "");
      while (part.find()) text.append(part.group(1));
    }
    HaltRing x = new HaltRing();
    Check.write(x, text.toString());
    check.due("fault of " + text, x.fault(), HaltRing.NONE);
    check.due("harts of " + text, x.board(), 1);
    check.due("instructions of " + text, x.count(1), 8);
    check.due("triggers of " + text, x.count(3), 2);
    check.due("the calls of an object", text.length() + 5 <= MOST_CALLS);
  }

  private static void methods(String readme) {
    for (Method m : HaltRing.class.getDeclaredMethods()) {
      if (Modifier.isPublic(m.getModifiers())) check.due(m.getName() + "() is named", readme.contains("`" + m.getName() + "("));
    }
  }
}
