import java.io.File;
import java.io.IOException;
import java.lang.reflect.Field;
import java.lang.reflect.Method;
import java.lang.reflect.Modifier;
import java.nio.file.Files;
import java.nio.file.Path;
import java.util.Arrays;
import java.util.Map;
import java.util.TreeMap;
import java.util.TreeSet;
import java.util.regex.Matcher;
import java.util.regex.Pattern;

/** README.md says what is so: its example, its tables of calls, its list of tests. */
public final class ReadmeHolds {
  private static int wrong = 0;

  private static void complain(String what) {
    wrong++;
    System.out.println("README.md: " + what);
  }

  private static int number(String sign) throws ReflectiveOperationException {
    if (sign.matches("-?\\d+")) return Integer.parseInt(sign);
    Field constant = PartedVoices.class.getField(sign.replace("PartedVoices.", ""));
    return constant.getInt(null);
  }

  private static int answer(PartedVoices x, String name, String given) throws ReflectiveOperationException {
    String[] signs = given.isBlank() ? new String[0] : given.split(", ");
    Object[] numbers = new Object[signs.length];
    for (int i = 0; i < signs.length; i++) numbers[i] = number(signs[i]);
    Class<?>[] kinds = new Class<?>[signs.length];
    Arrays.fill(kinds, int.class);
    return (Integer) PartedVoices.class.getMethod(name, kinds).invoke(x, numbers);
  }

  /** Each line of it is called as it stands there. */
  private static void example(String readme) throws ReflectiveOperationException {
    int from = readme.indexOf("```java\n");
    int to = readme.indexOf("```", from + 3);
    if (from < 0 || to < 0) {
      complain("there is no example");
      return;
    }
    PartedVoices x = null;
    int calls = 0;
    for (String line : readme.substring(from + 8, to).split("\n")) {
      Matcher call = Pattern.compile("x\\.(\\w+)\\(([^)]*)\\); +// (-?\\w+)(:.*)?").matcher(line);
      if (line.equals("PartedVoices x = new PartedVoices();")) {
        x = new PartedVoices();
      } else if (x == null || !call.matches()) {
        complain("in the example, '" + line + "' is no call with its answer");
      } else {
        calls++;
        int got = answer(x, call.group(1), call.group(2));
        if (got != number(call.group(3))) complain("'" + line + "' answered " + got);
      }
    }
    if (calls < 10) complain("the example has " + calls + " calls");
  }

  /** Each row that begins with a call: the call and the refusals in its last column. */
  private static Map<String, String> rows(String readme) {
    Map<String, String> rows = new TreeMap<>();
    Matcher row = Pattern.compile("(?m)^\\| `(\\w+)\\(([^)]*)\\)` \\|.*\\|([^|]*)\\|$").matcher(readme);
    while (row.find()) {
      int given = row.group(2).isBlank() ? 0 : row.group(2).split(",").length;
      if (rows.put(row.group(1) + given, names(row.group(3))) != null) complain(row.group(1) + " has two rows");
    }
    return rows;
  }

  private static String names(String text) {
    TreeSet<String> found = new TreeSet<>();
    Matcher names = Pattern.compile("\\b(UNKNOWN|OUTSIDE|NOT|FULL)\\b").matcher(text);
    while (names.find()) found.add(names.group());
    return found.toString();
  }

  /** What the document says behind the heading of the promise. */
  private static String refusals(String document, String call) {
    int from = document.indexOf("`int " + call + "(");
    int to = document.indexOf("\n", Math.max(from, 0));
    return from < 0 || to < 0 ? "" : names(document.substring(from, to));
  }

  private static void tables(String readme) throws IOException {
    Map<String, String> rows = rows(readme);
    Path path = Path.of("../shared/DOC.md");
    String document = Files.isReadable(path) ? Files.readString(path) : "";
    int calls = 0;
    for (Method m : PartedVoices.class.getDeclaredMethods()) {
      if (!Modifier.isPublic(m.getModifiers())) continue;
      calls++;
      String got = rows.get(m.getName() + m.getParameterCount());
      if (got == null) complain(m.getName() + " has no row");
      else if (!document.isEmpty() && !got.equals(refusals(document, m.getName()))) {
        complain(m.getName() + " has the refusals " + got + ", the document " + refusals(document, m.getName()));
      }
    }
    if (rows.size() != calls) complain("there are " + rows.size() + " rows, and " + calls + " calls");
  }

  private static void tests(String readme) {
    String[] files = new File("src/test/java").list();
    if (files == null) files = new String[0];
    for (String file : files) {
      if (!readme.contains("`" + file.replace(".java", "") + "`")) complain("it does not name the test " + file);
    }
    if (!readme.contains("\n    .ci/run\n")) complain("it does not say how to run the tests");
  }

  public static void main(String[] args) throws IOException, ReflectiveOperationException {
    String readme = Files.readString(Path.of("README.md"));
    example(readme);
    tables(readme);
    tests(readme);
    System.out.println(wrong == 0 ? "README.md holds" : wrong + " things of README.md do not hold");
    if (wrong != 0) System.exit(1);
  }
}
