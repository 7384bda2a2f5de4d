import java.io.IOException;
import java.lang.reflect.Method;
import java.lang.reflect.Modifier;
import java.nio.file.Files;
import java.nio.file.Path;
import java.util.regex.Matcher;
import java.util.regex.Pattern;

/** README.md's calls answer as it says, one behind another on one object, and it names every call and constant. */
public final class ReadmeTest {
  private static final Pattern EXAMPLE = Pattern.compile("^x\\.(\\w+)\\(([^)]*)\\);\\s+// (-?\\d+)", Pattern.MULTILINE);

  private static int wrong = 0;

  private static void tell(String fault) {
    wrong++;
    System.out.println("README.md: " + fault);
  }

  public static void main(String[] args) throws IOException, ReflectiveOperationException {
    String page = Files.readString(Path.of("README.md"));
    int examples = examples(page);
    if (examples < 20 || examples != page.split("\nx\\.", -1).length - 1) {
      tell("only " + examples + " calls could be read");
    }
    names(page);
    System.out.println(wrong == 0 ? examples + " calls of README.md are as it says" : wrong + " faults");
    if (wrong != 0) {
      System.exit(1);
    }
  }

  private static int examples(String page) throws ReflectiveOperationException {
    MirrorNodes x = new MirrorNodes();
    Matcher m = EXAMPLE.matcher(page);
    int many = 0;
    while (m.find()) {
      many++;
      long got = answer(x, m.group(1), m.group(2).isEmpty() ? new String[0] : m.group(2).split(", "));
      if (got != Long.parseLong(m.group(3))) {
        tell(m.group(1) + "(" + m.group(2) + ") answered " + got + ", it says " + m.group(3));
      }
    }
    return many;
  }

  private static long answer(MirrorNodes x, String name, String[] words) throws ReflectiveOperationException {
    for (Method call : MirrorNodes.class.getMethods()) {
      if (call.getName().equals(name) && call.getParameterCount() == words.length) {
        Object[] arguments = new Object[words.length];
        for (int i = 0; i < words.length; i++) {
          int value = words[i].startsWith("'") ? words[i].charAt(1) : Integer.parseInt(words[i]);
          boolean isLong = call.getParameterTypes()[i] == long.class;
          arguments[i] = isLong ? (Object) Long.valueOf(value) : (Object) Integer.valueOf(value);
        }
        return ((Number) call.invoke(x, arguments)).longValue();
      }
    }
    throw new NoSuchMethodException(name);
  }

  private static void names(String page) {
    for (Method call : MirrorNodes.class.getDeclaredMethods()) {
      if (Modifier.isPublic(call.getModifiers()) && !page.contains("`" + call.getName() + "`")) {
        tell(call.getName() + " is not named");
      }
    }
    for (String constant : "BAD NOT FULL NONE NULL CAST INDEX SIZE".split(" ")) {
      if (!page.contains("`" + constant + "`")) {
        tell(constant + " is not named");
      }
    }
  }
}
