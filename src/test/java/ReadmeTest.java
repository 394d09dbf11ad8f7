import java.io.IOException;
import java.lang.reflect.Method;
import java.lang.reflect.Modifier;
import java.nio.file.Files;
import java.nio.file.Path;
import java.util.ArrayList;
import java.util.List;
import java.util.regex.Matcher;
import java.util.regex.Pattern;

/** README.md: each call of its examples answers what stands behind it, and its tables are as the class is. */
public final class ReadmeTest {
  private static final String BEGINNING = "LeakCarousel x = new LeakCarousel();";
  private static final Pattern CALL = Pattern.compile("x\\.(\\w+)\\(((?:'.'|[^')])*)\\);");
  private static final Pattern BITS = Pattern.compile("Double\\.doubleToRawLongBits\\((-?[0-9.]+)\\)");
  private static final int FEWEST_CALLS = 50;

  private static int calls = 0;

  public static void main(String[] args) throws IOException, ReflectiveOperationException {
    String page = Files.readString(Path.of("README.md"));
    for (List<String> example : examplesOf(page)) {
      follow(example);
    }
    Check.dueTrue("the examples hold " + calls + " calls", calls >= FEWEST_CALLS);
    constants(page);
    methods(page);
    Check.dueTrue("the page tells of 512 calls", page.contains("at most 512 calls"));
    tests(page);
    Check.finish();
  }

  private static List<List<String>> examplesOf(String page) {
    List<List<String>> examples = new ArrayList<>();
    List<String> example = null;
    for (String line : page.split("\n")) {
      if (line.startsWith("```java")) {
        example = new ArrayList<>();
        examples.add(example);
      } else if (line.startsWith("```")) {
        example = null;
      } else if (example != null) {
        example.add(line);
      }
    }
    return examples;
  }

  private static void follow(List<String> example) throws ReflectiveOperationException {
    Check.dueWords("the first line of an example", example.get(0), BEGINNING);
    LeakCarousel x = new LeakCarousel();
    for (String line : example.subList(1, example.size())) {
      int comment = line.indexOf("// ");
      Check.dueTrue("an answer stands behind " + line, comment > 0);
      String due = line.substring(comment + 3).split(":")[0].strip();
      String code = withNumbers(line.substring(0, comment));
      Check.dueWords(line, answerOf(x, code), numberOf(due));
    }
  }

  private static String withNumbers(String code) {
    Matcher bits = BITS.matcher(code);
    return bits.replaceAll(found -> Double.doubleToRawLongBits(Double.parseDouble(found.group(1))) + "L");
  }

  /** The answer of the last call of the line. */
  private static String answerOf(LeakCarousel x, String code) throws ReflectiveOperationException {
    Matcher call = CALL.matcher(code);
    String answer = "nothing";
    int end = 0;
    while (call.find()) {
      Check.dueTrue("only calls stand in " + code, code.substring(end, call.start()).isBlank());
      end = call.end();
      answer = String.valueOf(answerOf(x, call.group(1), call.group(2)));
      calls++;
    }
    Check.dueTrue("only calls stand in " + code, code.substring(end).isBlank());
    return answer;
  }

  private static Object answerOf(LeakCarousel x, String name, String words) throws ReflectiveOperationException {
    String[] arguments = words.isEmpty() ? new String[0] : words.split(", ");
    Class<?>[] types = new Class<?>[arguments.length];
    Object[] values = new Object[arguments.length];
    for (int i = 0; i < arguments.length; i++) {
      values[i] = valueOf(arguments[i]);
      types[i] = (Class<?>) values[i].getClass().getField("TYPE").get(null);
    }
    return LeakCarousel.class.getMethod(name, types).invoke(x, values);
  }

  private static Object valueOf(String argument) {
    if (argument.startsWith("'")) {
      return argument.charAt(1);
    }
    if (argument.equals("true") || argument.equals("false")) {
      return Boolean.valueOf(argument);
    }
    if (argument.endsWith("L")) {
      return Long.valueOf(argument.substring(0, argument.length() - 1));
    }
    return Integer.valueOf(argument);
  }

  private static String numberOf(String due) throws ReflectiveOperationException {
    boolean constant = due.matches("[A-Z_]+");
    return constant ? String.valueOf(LeakCarousel.class.getField(due).getInt(null)) : due;
  }

  /** The table tells the number of each constant, and the document's words. */
  private static void constants(String page) {
    String[] due = {"| `UNKNOWN` | -1 | There is no such head or part. |",
      "| `BAD_VALUE` | -2 | Another argument is out of range. |", "| `FULL` | -3 | There is no more room. |",
      "| `NOT_POSSIBLE` | -4 | This is not possible. |",
      "| `NONE` | -5 | There is no such thing; not an error. |"};
    for (String line : due) {
      Check.dueTrue("the page holds " + line, page.contains(line + "\n"));
    }
  }

  /** Each method has a line of the table, with as many arguments as it takes. */
  private static void methods(String page) {
    for (Method method : LeakCarousel.class.getDeclaredMethods()) {
      if (Modifier.isPublic(method.getModifiers())) {
        Matcher line = Pattern.compile("\n\\| `" + method.getName() + "\\(([a-z, ]*)\\)` \\|").matcher(page);
        boolean found = line.find();
        Check.dueTrue("the page has a line for " + method.getName(), found);
        int told = !found ? -1 : line.group(1).isEmpty() ? 0 : line.group(1).split(", ").length;
        Check.due("arguments of " + method.getName(), told, method.getParameterCount());
      }
    }
  }

  private static void tests(String page) throws IOException {
    Check.dueTrue("the page tells of .ci/run", page.contains("    .ci/run\n"));
    try (var files = Files.list(Path.of("src/test/java"))) {
      files.forEach(file -> {
        String name = file.getFileName().toString().replace(".java", "");
        Check.dueTrue("the page tells of " + name, page.contains("`" + name + "`"));
      });
    }
  }
}
