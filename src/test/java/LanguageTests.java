import java.lang.reflect.Field;
import java.lang.reflect.Method;
import java.lang.reflect.Modifier;
import java.nio.file.Files;
import java.nio.file.Path;
import java.util.ArrayList;
import java.util.List;
import java.util.Set;
import java.util.TreeSet;
import java.util.regex.Matcher;
import java.util.regex.Pattern;

/** The rules of LANGUAGE.md that a look at the source and at the class can tell. */
public final class LanguageTests {
  private static final Path SOURCE = Path.of("src/main/java/BeginningsFilter.java");
  private static final String FACE = "account add bit bits build child cover end feed fill forget free has holds image "
      + "item keys leaf leafAt leafOf least level look loose may meets mode node question range rank remove report row "
      + "seek seekBack select set sign since spread state storm stormRange tuned";
  private static int wrong = 0;

  public static void main(String[] args) throws Exception {
    String code = withoutTexts(Files.readString(SOURCE));
    face();
    words(code);
    library(code);
    shape(code);
    System.out.println(wrong == 0 ? "LanguageTests: all rules hold" : "LanguageTests: " + wrong + " faults");
    if (wrong != 0) System.exit(1);
  }

  private static void fault(int rule, String what) {
    wrong++;
    System.out.println("rule " + rule + ": " + what);
  }

  private static String withoutTexts(String source) {
    String code = source.replaceAll("(?s)/\\*.*?\\*/", " ").replaceAll("//[^\n]*", " ");
    return code.replaceAll("\"[^\"]*\"", "\"\"").replaceAll("'[^']+'", "' '");
  }

  private static void face() {
    Set<String> names = new TreeSet<>(List.of(FACE.split(" ")));
    Set<String> found = new TreeSet<>();
    for (Method m : BeginningsFilter.class.getDeclaredMethods()) {
      if (Modifier.isPublic(m.getModifiers())) {
        if (!found.add(m.getName())) fault(1, "twice public: " + m.getName());
      } else if (!Modifier.isPrivate(m.getModifiers()) || names.contains(m.getName())) {
        fault(1, "method " + m.getName());
      }
      if (m.getParameterCount() > 7) fault(11, "parameters of " + m.getName());
    }
    if (!found.equals(names)) fault(1, "the face is " + found);
    fields(BeginningsFilter.class);
    if (BeginningsFilter.class.getDeclaredClasses().length > 11) fault(11, "too many classes");
    for (Class<?> c : BeginningsFilter.class.getDeclaredClasses()) {
      if (!Modifier.isStatic(c.getModifiers()) || Modifier.isPublic(c.getModifiers())) fault(2, c.getName());
      for (Method m : c.getDeclaredMethods()) {
        if (names.contains(m.getName())) fault(1, c.getName() + " has " + m.getName());
        if (m.getParameterCount() > 7) fault(11, "parameters of " + m.getName());
      }
      fields(c);
    }
  }

  private static void fields(Class<?> c) {
    int own = 0;
    for (Field f : c.getDeclaredFields()) {
      boolean isStatic = Modifier.isStatic(f.getModifiers());
      if (isStatic && !Modifier.isFinal(f.getModifiers())) fault(5, "static " + f.getName());
      if (!isStatic) own++;
      boolean isNone = f.getName().equals("NONE");
      if (c == BeginningsFilter.class && !isNone && !Modifier.isPrivate(f.getModifiers())) fault(1, f.getName());
    }
    if (own > 20) fault(11, "fields of " + c.getName());
  }

  private static void words(String code) {
    String[] none = {"throw", "throws", "try", "catch", "finally", "synchronized", "assert", "import", "package",
        "protected", "native", "volatile", "transient", "var", "instanceof", "Object", "double", "float"};
    for (String word : none) {
      if (Pattern.compile("\\b" + word + "\\b").matcher(code).find()) fault(6, "the word " + word);
    }
    if (code.contains("->") || code.contains("::")) fault(2, "a lambda or a method reference");
    if (Pattern.compile("\"\"\\s*\\+|\\+\\s*\"\"").matcher(code).find()) fault(10, "texts joined by +");
    if (Pattern.compile("static\\s*\\{").matcher(code).find()) fault(5, "a static block");
    if (Pattern.compile("while\\s*\\(\\s*true|for\\s*\\(\\s*;").matcher(code).find()) fault(9, "a loop without an end");
  }

  private static void library(String code) {
    Set<String> known = Set.of("Math.min", "Math.max", "System.arraycopy");
    Matcher m = Pattern.compile("\\b([A-Z][A-Za-z]*[a-z][A-Za-z]*)\\.([a-zA-Z]+)").matcher(code);
    while (m.find()) {
      if (!known.contains(m.group())) fault(4, m.group());
    }
  }

  /** Methods by their braces: none longer than sixty lines. */
  private static void shape(String code) {
    String[] lines = code.split("\n", -1);
    Pattern head = Pattern.compile("^( {4}| {8})(public|private|static|int|long|boolean|void|[A-Z]).*\\) \\{$");
    List<String> open = new ArrayList<>();
    int from = 0;
    String indent = "";
    for (int i = 0; i < lines.length; i++) {
      Matcher m = head.matcher(lines[i]);
      if (open.isEmpty() && m.matches()) {
        open.add(lines[i].trim());
        indent = m.group(1);
        from = i;
      } else if (!open.isEmpty() && lines[i].equals(indent + "}")) {
        if (i - from > 60) fault(11, "long: " + open.get(0));
        open.clear();
      }
      if (lines[i].length() > 120) fault(11, "a long line: " + (i + 1));
    }
  }
}
