import java.lang.reflect.Method;
import java.nio.file.Files;
import java.nio.file.Path;
import java.util.HashMap;
import java.util.Map;
import java.util.regex.Matcher;
import java.util.regex.Pattern;

/** The example of README.md answers what it says, and its table names each call of the face. */
public final class ReadmeTest {
  private static final Pattern LINE = Pattern.compile("yard\\.(\\w+)\\(([-\\d, ]*)\\); +// (-?\\d+|[A-Z]+):.*");

  private static Map<String, Method> calls() {
    Map<String, Method> calls = new HashMap<>();
    for (Method m : ScaffoldYard.class.getMethods()) {
      if (m.getDeclaringClass() == ScaffoldYard.class) calls.put(m.getName(), m);
    }
    return calls;
  }

  private static long due(String word) throws Exception {
    if (Character.isLetter(word.charAt(0))) return ScaffoldYard.class.getField(word).getInt(null);
    return Long.parseLong(word);
  }

  private static void example(String readme) throws Exception {
    Matcher block = Pattern.compile("(?s)```java\\n(.*?)```").matcher(readme);
    Due.is("README.md has an example", block.find() ? 1 : 0, 1);
    Map<String, Method> calls = calls();
    ScaffoldYard yard = new ScaffoldYard();
    String[] lines = block.group(1).split("\n");
    Due.is("the first line makes a yard", lines[0].equals("ScaffoldYard yard = new ScaffoldYard();") ? 1 : 0, 1);
    for (int k = 1; k < lines.length; k++) {
      Matcher line = LINE.matcher(lines[k]);
      if (!line.matches() || !calls.containsKey(line.group(1))) {
        Due.is(lines[k] + " is a call with its answer", 0, 1);
        continue;
      }
      String[] told = line.group(2).isEmpty() ? new String[0] : line.group(2).split(", ");
      Object[] args = new Object[told.length];
      for (int a = 0; a < told.length; a++) args[a] = Integer.parseInt(told[a]);
      Due.is(lines[k], ((Number) calls.get(line.group(1)).invoke(yard, args)).longValue(), due(line.group(3)));
    }
  }

  /** The table writes each call with the document's own names of what it takes. */
  private static void table(String readme, String document) {
    Matcher call = Pattern.compile("public (?:int|long) (\\w+)\\(([^)]*)\\);").matcher(document);
    int many = 0;
    while (call.find()) {
      many++;
      String written = "`" + call.group(1) + "(" + call.group(2).replace("int ", "") + ")`";
      Due.is("the table has " + written, readme.contains(written) ? 1 : 0, 1);
    }
    Due.is("calls of the document", many, 43);
  }

  private static void tests(String readme) throws Exception {
    try (var files = Files.list(Path.of("src/test/java"))) {
      for (Path file : (Iterable<Path>) files::iterator) {
        String name = file.getFileName().toString().replace(".java", "");
        if (name.endsWith("Test")) Due.is("the tests have " + name, readme.contains("- `" + name + "`:") ? 1 : 0, 1);
      }
    }
  }

  public static void main(String[] args) throws Exception {
    String readme = Files.readString(Path.of("README.md"));
    example(readme);
    table(readme, Files.readString(Path.of("../shared/DOC.md")));
    tests(readme);
    Due.end();
  }
}
