import java.lang.reflect.Constructor;
import java.lang.reflect.Field;
import java.lang.reflect.Method;
import java.lang.reflect.Modifier;
import java.nio.file.Files;
import java.nio.file.Path;
import java.util.ArrayList;
import java.util.List;
import java.util.Set;
import java.util.TreeSet;
import java.util.regex.Matcher;
import java.util.regex.Pattern;

/** The face of the class, and the rules of LANGUAGE.md that can be read off its text and its members. */
public final class LanguageTest {
  private static final Path SOURCE = Path.of("src/main/java/ScaffoldYard.java");
  private static final Path DOCUMENT = Path.of("../shared/DOC.md");
  private static int wrong = 0;

  private static void must(boolean holds, String what) {
    if (!holds) {
      wrong++;
      System.out.println("not so: " + what);
    }
  }

  /** The text without comments and without what stands inside quotes. */
  private static String bare(String text) {
    return text.replaceAll("(?s)/\\*.*?\\*/", " ").replaceAll("//[^\\n]*", " ").replaceAll("\"(\\\\.|[^\"\\\\])*\"", "\"\"");
  }

  private static String told(String type, String name, List<String> types) {
    return type + " " + name + "(" + String.join(",", types) + ")";
  }

  private static Set<String> documentFace(String document) {
    Set<String> face = new TreeSet<>();
    Matcher m = Pattern.compile("public (int|long) (\\w+)\\(([^)]*)\\);").matcher(document);
    while (m.find()) {
      List<String> types = new ArrayList<>();
      for (String part : m.group(3).split(",")) if (!part.isBlank()) types.add(part.trim().split(" ")[0]);
      face.add(told(m.group(1), m.group(2), types));
    }
    return face;
  }

  private static void face(String document) throws Exception {
    Set<String> own = new TreeSet<>();
    Set<String> publicNames = new TreeSet<>();
    for (Method m : ScaffoldYard.class.getDeclaredMethods()) {
      if (Modifier.isPrivate(m.getModifiers()) || m.isSynthetic()) continue;
      List<String> types = new ArrayList<>();
      for (Class<?> type : m.getParameterTypes()) types.add(type.getName());
      own.add(told(m.getReturnType().getName(), m.getName(), types));
      publicNames.add(m.getName());
      must(Modifier.isPublic(m.getModifiers()), m + " is public");
    }
    must(own.size() == 43 && own.equals(documentFace(document)), "the calls are those of the document: " + own);
    Constructor<?>[] makers = ScaffoldYard.class.getDeclaredConstructors();
    must(makers.length == 1 && Modifier.isPublic(makers[0].getModifiers()) && makers[0].getParameterCount() == 0, "one public constructor");
    must(Modifier.isFinal(ScaffoldYard.class.getModifiers()), "the class is final");
    Set<String> constants = new TreeSet<>();
    for (Field field : ScaffoldYard.class.getDeclaredFields()) {
      if (Modifier.isPrivate(field.getModifiers())) continue;
      constants.add(field.getName() + " " + field.get(null));
    }
    must(constants.equals(Set.of("BAD -1000000001", "NO -1000000002", "FULL -1000000003", "NOTHING -1000000011", "INDEX -1000000013", "NONE -1000000005")),
        "the constants are those of the document: " + constants);
    members(ScaffoldYard.class, publicNames);
    for (Class<?> inside : ScaffoldYard.class.getDeclaredClasses()) {
      must(Modifier.isStatic(inside.getModifiers()), inside + " is static");
      must(!Modifier.isPublic(inside.getModifiers()) && !Modifier.isProtected(inside.getModifiers()), inside + " is not public");
      members(inside, publicNames);
    }
    must(ScaffoldYard.class.getDeclaredClasses().length <= 11, "at most twelve classes");
  }

  private static void members(Class<?> type, Set<String> publicNames) {
    int own = 0;
    for (Field field : type.getDeclaredFields()) {
      if (Modifier.isStatic(field.getModifiers())) must(Modifier.isFinal(field.getModifiers()), field + " is final");
      else own++;
    }
    must(own <= 20, type + " has at most twenty fields");
    for (Method m : type.getDeclaredMethods()) {
      must(m.getParameterCount() <= 7, m + " takes at most seven parameters");
      must(type == ScaffoldYard.class && Modifier.isPublic(m.getModifiers()) || !publicNames.contains(m.getName()), m + " bears no public call's name");
    }
  }

  private static void text(String source) {
    for (String word : new String[] {"throw", "throws", "try", "catch", "finally", "synchronized", "assert", "package", "native", "volatile", "protected", "double", "float", "Object", "Exception"}) {
      must(!Pattern.compile("\\b" + word + "\\b").matcher(source).find(), "the word " + word + " is not used");
    }
    for (String sign : new String[] {"->", "::", "Exact(", "hashCode", "toString", "System.", "equals("}) {
      must(!source.contains(sign), sign + " is not used");
    }
    Matcher imports = Pattern.compile("import\\s+([\\w.]+)").matcher(source);
    while (imports.find()) must(imports.group(1).equals("java.util.Arrays"), "import of " + imports.group(1));
    Matcher library = Pattern.compile("\\b(Math|Arrays|Integer|Long)\\.(\\w+)").matcher(source);
    Set<String> allowed = Set.of("Math.max", "Math.min", "Math.abs", "Arrays.fill");
    while (library.find()) must(allowed.contains(library.group()), library.group() + " is of the library that is listed");
    must(!Pattern.compile("Arrays\\.fill\\([^)]*\\b(true|false)\\b").matcher(source).find(), "Arrays.fill is for numbers alone");
    for (char sign : source.toCharArray()) must(sign < 128, "signs are 1 to 127");
  }

  /** Methods stay short: from a line that opens a method to the line that closes it. */
  private static void lengths(List<String> lines) {
    int opened = -1;
    String indent = "";
    for (int at = 0; at < lines.size(); at++) {
      String line = lines.get(at);
      String own = line.substring(0, line.length() - line.stripLeading().length());
      boolean opens = line.endsWith(") {") && !line.strip().matches("(if|for|while|switch|\\} else).*");
      if (opened < 0 && opens) {
        opened = at;
        indent = own;
      } else if (opened >= 0 && line.equals(indent + "}")) {
        must(at - opened < 60, "the method of line " + (opened + 1) + " is short");
        opened = -1;
      }
    }
    must(opened < 0, "each method has an end");
  }

  public static void main(String[] args) throws Exception {
    String source = Files.readString(SOURCE);
    face(Files.readString(DOCUMENT));
    text(bare(source));
    lengths(Files.readAllLines(SOURCE));
    System.out.println(wrong == 0 ? "the face and the rules hold" : wrong + " rules are broken");
    if (wrong != 0) System.exit(1);
  }
}
