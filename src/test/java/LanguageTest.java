import java.io.IOException;
import java.lang.reflect.Constructor;
import java.lang.reflect.Field;
import java.lang.reflect.Method;
import java.lang.reflect.Modifier;
import java.nio.file.Files;
import java.nio.file.Path;
import java.util.Arrays;
import java.util.List;
import java.util.Set;
import java.util.TreeSet;
import java.util.regex.Matcher;
import java.util.regex.Pattern;
import java.util.stream.Collectors;

/** The class's face is the document's, and its source keeps to the rules of LANGUAGE.md that can be seen in it. */
public final class LanguageTest {
  private static final Path SOURCE = Path.of("src/main/java/MirrorNodes.java");

  private static final List<String> FACE = List.of(
      "int put(int)", "int pop()", "int change(int,int)", "int undo()", "int letter(int)", "int node(int,int)",
      "int keep(int)", "int back(int)", "int common(int,int)", "int ends(int,int)", "int groups(int)",
      "int cuts(int,int)", "int evens(int)", "int in(int,int,int)", "int mend(int)", "int turned(int)",
      "int next(int,int)", "int grow(int,int)", "int odds(int,int,int)", "int walks(int,int,int)", "int feed(int)",
      "int clear()", "int find()", "int times()", "int sheet(int,int,int)", "int drop(int)",
      "long item(int,int,int,long)", "int copy(int,int,int,int,int)", "int spell(int,int,int,int)",
      "int read(int,int,int,int)", "int count(int)");

  private static final List<String> CONSTANTS = List.of(
      "BAD=-1", "NOT=-2", "FULL=-3", "NONE=-4", "NULL=-11", "CAST=-12", "INDEX=-13", "SIZE=-14");

  private static int wrong = 0;

  private static void check(boolean holds, String otherwise) {
    if (!holds) {
      wrong++;
      System.out.println(otherwise);
    }
  }

  public static void main(String[] args) throws IOException, IllegalAccessException {
    methods();
    constants();
    classes();
    String code = withoutComments(Files.readString(SOURCE));
    words(code);
    imports(code);
    methodLengths(code);
    makesOnlyInConstructors(code);
    System.out.println(wrong == 0 ? "the face and the language are as due" : wrong + " rules are not kept");
    if (wrong != 0) {
      System.exit(1);
    }
  }

  private static void methods() {
    Set<String> seen = new TreeSet<>();
    Set<String> names = new TreeSet<>();
    for (Method m : MirrorNodes.class.getDeclaredMethods()) {
      if (Modifier.isPublic(m.getModifiers())) {
        String types = Arrays.stream(m.getParameterTypes()).map(Class::getName).collect(Collectors.joining(","));
        seen.add(m.getReturnType().getName() + " " + m.getName() + "(" + types + ")");
        names.add(m.getName());
        check(!Modifier.isStatic(m.getModifiers()), m.getName() + " is static");
      } else {
        check(Modifier.isPrivate(m.getModifiers()), "rule 1: " + m.getName() + " is neither public nor private");
      }
    }
    check(seen.equals(new TreeSet<>(FACE)), "rule 1: the public methods are " + seen);
    for (Class<?> c : MirrorNodes.class.getDeclaredClasses()) {
      for (Method m : c.getDeclaredMethods()) {
        check(!names.contains(m.getName()), "rule 1: " + c.getName() + " has a method " + m.getName());
        check(m.getParameterCount() <= 7, "rule 11: parameters of " + m.getName());
      }
    }
    for (Method m : MirrorNodes.class.getDeclaredMethods()) {
      check(Modifier.isPublic(m.getModifiers()) || !names.contains(m.getName()), "rule 1: private " + m.getName());
      check(m.getParameterCount() <= 7, "rule 11: parameters of " + m.getName());
    }
    Constructor<?>[] made = MirrorNodes.class.getDeclaredConstructors();
    check(made.length == 1 && made[0].getParameterCount() == 0 && Modifier.isPublic(made[0].getModifiers()),
        "rule 1: the constructor");
  }

  private static void constants() throws IllegalAccessException {
    Set<String> seen = new TreeSet<>();
    for (Field f : MirrorNodes.class.getDeclaredFields()) {
      int how = f.getModifiers();
      if (Modifier.isPublic(how)) {
        check(Modifier.isStatic(how) && Modifier.isFinal(how), f.getName() + " is no constant");
        seen.add(f.getName() + "=" + f.getInt(null));
      } else {
        check(Modifier.isPrivate(how), "rule 1: field " + f.getName() + " is not private");
      }
      check(!Modifier.isStatic(how) || Modifier.isFinal(how), "rule 5: " + f.getName() + " is not final");
    }
    check(seen.equals(new TreeSet<>(CONSTANTS)), "the constants are " + seen);
  }

  private static void classes() {
    check(Modifier.isPublic(MirrorNodes.class.getModifiers()) && Modifier.isFinal(MirrorNodes.class.getModifiers()),
        "the class is not public and final");
    Class<?>[] inside = MirrorNodes.class.getDeclaredClasses();
    check(inside.length <= 11, "rule 11: " + inside.length + " classes inside");
    for (Class<?> c : inside) {
      check(Modifier.isStatic(c.getModifiers()), "rule 2: " + c.getName() + " is not static");
      check(!Modifier.isPublic(c.getModifiers()) && !Modifier.isProtected(c.getModifiers()), "rule 1: " + c.getName());
      long fields = Arrays.stream(c.getDeclaredFields()).filter(f -> !Modifier.isStatic(f.getModifiers())).count();
      check(fields <= 20, "rule 11: " + c.getName() + " has " + fields + " fields");
    }
  }

  private static String withoutComments(String source) {
    check(source.chars().allMatch(c -> c < 127), "a sign beyond 126");
    return Pattern.compile("/\\*.*?\\*/", Pattern.DOTALL).matcher(source).replaceAll("").replaceAll("//[^\n]*", "");
  }

  private static void words(String code) {
    for (String word : List.of("throw", "throws", "try", "catch", "finally", "synchronized", "assert", "package", "native",
        "volatile", "transient", "protected", "goto", "var", "Object", "System\\.out", "System\\.(?!arraycopy)",
        "Exact", "hashCode", "toString", "equals", "Random", "Thread", "double", "float")) {
      check(!Pattern.compile("\\b" + word + "\\b").matcher(code).find(), "rules 3, 4, 6, 13: " + word);
    }
    check(!code.contains("->") && !code.contains("::"), "rule 2: a lambda or a method reference");
    check(!code.contains("while (true)") && !code.contains("for (;;)"), "rule 9: a loop without an end");
    check(!Pattern.compile("static\\s*\\{").matcher(code).find(), "rule 5: a static block");
  }

  private static void imports(String code) {
    Matcher m = Pattern.compile("import ([^;]*);").matcher(code);
    while (m.find()) {
      check(Set.of("java.util.Arrays", "java.util.ArrayList", "java.util.List").contains(m.group(1)),
          "rule 4: import " + m.group(1));
    }
  }

  /** A method begins with a line that ends in ") {" at one or two steps in, and ends with the brace under it. */
  private static void methodLengths(String code) {
    String[] lines = code.split("\n", -1);
    for (int i = 0; i < lines.length; i++) {
      Matcher m = Pattern.compile("^( {4}| {8})\\S.*\\) \\{$").matcher(lines[i]);
      if (m.matches() && !lines[i].trim().matches("(if|for|while|switch|\\}).*")) {
        int end = i;
        while (end < lines.length && !lines[end].equals(m.group(1) + "}")) {
          end++;
        }
        check(end - i < 60, "rule 11: " + lines[i].trim() + " has " + (end - i + 1) + " lines");
      }
    }
  }

  /** Rule 12, and README.md's word: what is made is made as a field's first value or in a constructor. */
  private static void makesOnlyInConstructors(String code) {
    Pattern header = Pattern.compile("^( {4}| {8})(?!(?:if|for|while|switch)\\b)[^\\s}].*\\) \\{$");
    Pattern constructor = Pattern.compile("^ +(public )?[A-Z]\\w*\\(.*\\) \\{$");
    String end = null;
    boolean free = true;
    for (String line : code.split("\n", -1)) {
      Matcher m = header.matcher(line);
      if (end == null && m.matches()) {
        end = m.group(1) + "}";
        free = constructor.matcher(line).matches();
      }
      check(free || !Pattern.compile("\\bnew\\b|\\bclone\\b|copyOf").matcher(line).find(),
          "rule 12: made in a call: " + line.trim());
      if (line.equals(end)) {
        end = null;
        free = true;
      }
    }
  }
}
