import java.io.IOException;
import java.lang.reflect.Method;
import java.lang.reflect.Modifier;
import java.nio.file.Files;
import java.nio.file.Path;
import java.util.ArrayList;
import java.util.List;
import java.util.Set;
import java.util.TreeSet;
import java.util.regex.Matcher;
import java.util.regex.Pattern;
import java.util.stream.Stream;

/** README.md: its examples answer what stands behind them, and what it says to run is what .ci/run runs. */
public final class ReadmeTests extends Bench {
  private static final Path README = Path.of("README.md");
  private static final Path TESTS = Path.of("src/test/java");
  private static final String NEW_OBJECT = "BeginningsFilter filter = new BeginningsFilter();";
  private static final Pattern CALL = Pattern.compile("filter\\.(\\w+)\\(([^)]*)\\); +// (-?\\d+|NONE|true|false)(:.*)?");
  private static final Pattern LISTED = Pattern.compile("- `(\\w+)`: .*");
  private static final int MOST_CALLS = 512;

  private ReadmeTests() { }

  public static void main(String[] args) throws IOException, ReflectiveOperationException {
    List<String> lines = Files.readAllLines(README);
    examples(block(lines, "java"));
    everyMethodIsNamed(String.join("\n", lines));
    says("what README.md says to run is what .ci/run runs");
    due("the lines to run", block(lines, "sh").toString(), "[.ci/run]");
    due(".ci/run can be executed", Files.isExecutable(Path.of(".ci/run")), true);
    due("the list of tests", listed(lines).toString(), tests().toString());
    end("ReadmeTests");
  }

  /** All lines between fences of that kind. */
  private static List<String> block(List<String> lines, String kind) {
    List<String> found = new ArrayList<>();
    boolean inside = false;
    for (String line : lines) {
      if (line.startsWith("```")) {
        inside = line.equals("```" + kind);
      } else if (inside) {
        found.add(line);
      }
    }
    return found;
  }

  private static void examples(List<String> lines) throws ReflectiveOperationException {
    says("how an object is made, how KEYS are told, how the filter is built and asked, what a refused call answers");
    due("the first line", lines.get(0), NEW_OBJECT);
    BeginningsFilter filter = new BeginningsFilter();
    for (String line : lines.subList(1, lines.size())) {
      Matcher call = CALL.matcher(line);
      due("a call and its answer: " + line, call.matches(), true);
      if (call.matches()) due(line, answer(filter, call.group(1), call.group(2)), number(call.group(3)));
    }
    due("calls of one object", lines.size() - 1 <= MOST_CALLS, true);
  }

  private static long answer(BeginningsFilter x, String name, String told) throws ReflectiveOperationException {
    String[] words = told.isEmpty() ? new String[0] : told.split(", ");
    Method method = method(name);
    Object[] numbers = new Object[words.length];
    for (int i = 0; i < words.length; i++) {
      int v = (int) number(words[i]);
      numbers[i] = method.getParameterTypes()[i] == boolean.class ? (Object) (v == 1) : (Object) v;
    }
    Object got = method.invoke(x, numbers);
    return got instanceof Boolean yes ? (yes ? 1L : 0L) : ((Number) got).longValue();
  }

  private static Method method(String name) throws NoSuchMethodException {
    for (Method m : BeginningsFilter.class.getDeclaredMethods()) {
      if (Modifier.isPublic(m.getModifiers()) && m.getName().equals(name)) return m;
    }
    throw new NoSuchMethodException(name);
  }

  private static long number(String word) {
    switch (word) {
      case "true": return 1L;
      case "false": return 0L;
      case "NONE": return NONE;
      case "BeginningsFilter.NONE": return BeginningsFilter.NONE;
      default: return word.startsWith("0x") ? Integer.parseUnsignedInt(word.substring(2), 16) : Long.parseLong(word);
    }
  }

  private static void everyMethodIsNamed(String text) {
    says("README.md says how to use the class");
    for (Method m : BeginningsFilter.class.getDeclaredMethods()) {
      if (!Modifier.isPublic(m.getModifiers())) continue;
      boolean named = Pattern.compile("[.`]" + m.getName() + "[(`]").matcher(text).find();
      due(m.getName() + " is named", named, true);
    }
  }

  private static Set<String> listed(List<String> lines) {
    Set<String> found = new TreeSet<>();
    for (String line : lines) {
      Matcher entry = LISTED.matcher(line);
      if (entry.matches()) found.add(entry.group(1));
    }
    return found;
  }

  /** As .ci/run finds them: the files that have a main method. */
  private static Set<String> tests() throws IOException {
    Set<String> found = new TreeSet<>();
    try (Stream<Path> files = Files.list(TESTS)) {
      for (Path file : files.toList()) {
        String name = file.getFileName().toString();
        boolean isTest = name.endsWith(".java") && Files.readString(file).contains("public static void main");
        if (isTest) found.add(name.substring(0, name.length() - ".java".length()));
      }
    }
    return found;
  }
}
