import java.io.IOException;
import java.lang.reflect.Constructor;
import java.lang.reflect.Field;
import java.lang.reflect.Method;
import java.lang.reflect.Modifier;
import java.nio.file.Files;
import java.nio.file.Path;
import java.util.Arrays;
import java.util.List;
import java.util.Set;
import java.util.TreeSet;
import java.util.regex.Matcher;
import java.util.regex.Pattern;

/** The public face as the document has it, and the rules of LANGUAGE.md that can be seen from outside. */
public final class FaceAndRules {
  private static final Path SOURCE = Path.of("src/main/java/PartedVoices.java");
  private static final String[] FACE = {
    "told(int)", "at(int,int)", "cost(int,int)", "least(int)", "first(int,int)", "voice(int,int)", "member(int,int)",
    "note(int,int,int)", "take(int)", "move(int,int,int,int)", "share(int)", "term(int,int)", "follow(int,int)", "cut(int)",
    "part(int)", "mend()", "clear()", "drift(int)", "undo(int)", "write(int,int)", "tear()", "seed(int)", "keep(int)", "goBack(int)"};
  private static final String[] CONSTANTS = {"NONE", "UNKNOWN", "OUTSIDE", "NOT", "FULL"};
  private static final List<String> LIBRARY = List.of("java.util.Arrays", "java.util.ArrayList", "java.util.List");

  private static int wrong = 0;

  private static void check(boolean holds, String what) {
    if (!holds) {
      wrong++;
      System.out.println("rule broken: " + what);
    }
  }

  private static void constants() throws IllegalAccessException {
    int[] values = {-1, -1000000001, -1000000002, -1000000003, -1000000004};
    Set<String> found = new TreeSet<>();
    for (Field f : PartedVoices.class.getDeclaredFields()) {
      int m = f.getModifiers();
      if (Modifier.isPrivate(m)) {
        check(!Modifier.isStatic(m) || Modifier.isFinal(m), "5: static field " + f.getName() + " is not final");
        continue;
      }
      found.add(f.getName());
      int i = Arrays.asList(CONSTANTS).indexOf(f.getName());
      check(i >= 0, "1: field " + f.getName());
      boolean constant = Modifier.isPublic(m) && Modifier.isStatic(m) && Modifier.isFinal(m) && f.getType() == int.class;
      check(constant && i >= 0 && f.getInt(null) == values[i], "1: constant " + f.getName());
    }
    check(found.size() == CONSTANTS.length, "1: constants " + found);
  }

  private static void methods() {
    Set<String> names = new TreeSet<>();
    Set<String> found = new TreeSet<>();
    for (String call : FACE) names.add(call.substring(0, call.indexOf('(')));
    for (Method m : PartedVoices.class.getDeclaredMethods()) {
      if (Modifier.isPrivate(m.getModifiers())) {
        check(!names.contains(m.getName()), "1: private method " + m.getName());
        continue;
      }
      String form = m.toGenericString();
      check(form.startsWith("public int PartedVoices."), "1: " + form);
      found.add(form.substring(form.indexOf("PartedVoices.") + 13).replace(" ", ""));
    }
    check(found.equals(new TreeSet<>(Arrays.asList(FACE))), "1: methods " + found);
    for (Class<?> inside : PartedVoices.class.getDeclaredClasses()) {
      for (Method m : inside.getDeclaredMethods()) check(!names.contains(m.getName()), "1: method " + m.getName() + " inside");
    }
  }

  private static void classes() {
    int m = PartedVoices.class.getModifiers();
    check(Modifier.isPublic(m) && Modifier.isFinal(m), "1: public and final");
    Constructor<?>[] makers = PartedVoices.class.getDeclaredConstructors();
    check(makers.length == 1 && Modifier.isPublic(makers[0].getModifiers()) && makers[0].getParameterCount() == 0, "1: the constructor");
    Class<?>[] inside = PartedVoices.class.getDeclaredClasses();
    check(inside.length <= 11, "11: classes");
    for (Class<?> c : inside) {
      check(Modifier.isStatic(c.getModifiers()), "2: " + c.getName() + " is static");
      check(!Modifier.isPublic(c.getModifiers()) && !Modifier.isProtected(c.getModifiers()), "1: " + c.getName() + " is not public");
      for (Method method : c.getDeclaredMethods()) check(method.getParameterCount() <= 7, "11: parameters of " + method.getName());
      long fields = Arrays.stream(c.getDeclaredFields()).filter(f -> !Modifier.isStatic(f.getModifiers())).count();
      check(fields <= 20, "11: fields of " + c.getName());
      for (Field f : c.getDeclaredFields()) {
        check(!Modifier.isStatic(f.getModifiers()) || Modifier.isFinal(f.getModifiers()), "5: static field " + f.getName());
      }
    }
  }

  /** The source without comments and texts, which may hold any word. */
  private static String code() throws IOException {
    String source = Files.readString(SOURCE);
    source = source.replaceAll("(?s)/\\*.*?\\*/", " ").replaceAll("//[^\n]*", " ");
    return source.replaceAll("\"[^\"\n]*\"", "\"\"");
  }

  private static void words() throws IOException {
    String code = code();
    String[] barred = {
      "throw", "throws", "try", "catch", "finally", "synchronized", "assert", "package", "volatile", "native", "Thread", "System\\.(?!arraycopy)",
      "Random", "Math\\.\\w*Exact", "Math\\.random", "Object", "var", "hashCode", "toString", "->", "::"};
    for (String word : barred) {
      String sign = word.matches("\\w+") ? "\\b" + word + "\\b" : word;
      check(!Pattern.compile(sign).matcher(code).find(), "the source has " + word);
    }
    Matcher imports = Pattern.compile("import\\s+([^;]+);").matcher(code);
    while (imports.find()) check(LIBRARY.contains(imports.group(1).trim()), "4: import " + imports.group(1));
    check(!Pattern.compile("\\bstatic\\s*\\{").matcher(code).find(), "5: a static block");
    check(Files.readString(SOURCE).chars().allMatch(c -> c < 128), "3: signs of the source");
  }

  /** Counted between the line that opens a method and the one that ends it, as they are indented here. */
  private static void lengths() throws IOException {
    int from = 0;
    int line = 0;
    String ending = "";
    for (String text : Files.readAllLines(SOURCE)) {
      line++;
      Matcher head = Pattern.compile("^((?:    ){1,2})(?!.*\\bclass\\b)\\S.*\\) \\{$").matcher(text);
      if (ending.isEmpty() && head.matches()) {
        ending = head.group(1) + "}";
        from = line;
      } else if (text.equals(ending)) {
        check(line - from <= 60, "11: the method at line " + from);
        ending = "";
      }
    }
  }

  public static void main(String[] args) throws IOException, IllegalAccessException {
    constants();
    methods();
    classes();
    words();
    lengths();
    System.out.println(wrong == 0 ? "face and rules are kept" : wrong + " are broken");
    if (wrong != 0) System.exit(1);
  }
}
