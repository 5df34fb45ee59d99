import java.io.File;
import java.io.IOException;
import java.lang.reflect.Method;
import java.lang.reflect.Modifier;
import java.nio.file.Files;
import java.nio.file.Path;
import java.util.Set;
import java.util.TreeSet;
import java.util.regex.Matcher;
import java.util.regex.Pattern;

/** The calls that README.md shows answer as it says; it leaves no call and no test out. */
public final class ReadmeTest {
  private static final Path README = Path.of("README.md");
  private static final Pattern BLOCK = Pattern.compile("(?s)```java\n(.*?)```");
  private static final Pattern CALL = Pattern.compile("x\\.(\\w+)\\(([^/]*)\\); +// (-?\\d+)(: .*)?");
  private static final Pattern TEXT =
      Pattern.compile("for \\(char c : \"([^\"]*)\"\\.toCharArray\\(\\)\\) x\\.feed\\(c\\);");

  private final Set<String> shown = new TreeSet<>();
  private TwoMoons x = null;
  private int calls = 0;

  private ReadmeTest() {
  }

  public static void main(String[] args) throws IOException, ReflectiveOperationException {
    String readme = Files.readString(README);
    ReadmeTest test = new ReadmeTest();
    Matcher block = BLOCK.matcher(readme);
    while (block.find()) {
      for (String line : block.group(1).split("\n")) {
        test.go(line);
      }
    }
    Check.due("README.md shows no more calls than an object is used for", test.calls <= 512);
    test.leavesNoCallOut();
    leavesNoTestOut(readme);
    Check.end();
  }

  private void go(String line) throws ReflectiveOperationException {
    Matcher call = CALL.matcher(line);
    Matcher text = TEXT.matcher(line);
    if (line.equals("TwoMoons x = new TwoMoons();")) {
      x = new TwoMoons();
      calls = 0;
    } else if (text.matches()) {
      for (char c : text.group(1).toCharArray()) {
        x.feed(c);
        calls++;
      }
    } else if (call.matches()) {
      due(line, call.group(1), call.group(2), Long.parseLong(call.group(3)));
    } else {
      Check.due("README.md shows calls alone: " + line, line.isEmpty());
    }
  }

  private void due(String line, String name, String told, long want) throws ReflectiveOperationException {
    String[] words = told.isEmpty() ? new String[0] : told.split(", ");
    Method method = method(name, words.length);
    Check.due("README.md: there is " + line, method != null);
    if (method != null) {
      Object[] numbers = new Object[words.length];
      for (int i = 0; i < words.length; i++) {
        long number = words[i].startsWith("'") ? words[i].charAt(1) : Long.parseLong(words[i]);
        boolean isLong = method.getParameterTypes()[i] == long.class;
        numbers[i] = isLong ? (Object) number : (Object) Math.toIntExact(number);
      }
      Check.due("README.md: " + line, ((Number) method.invoke(x, numbers)).longValue(), want);
      shown.add(name);
      calls++;
    }
  }

  private static Method method(String name, int parameters) {
    Method found = null;
    for (Method method : TwoMoons.class.getDeclaredMethods()) {
      boolean isSo = method.getName().equals(name) && method.getParameterCount() == parameters;
      found = isSo && Modifier.isPublic(method.getModifiers()) ? method : found;
    }
    return found;
  }

  private void leavesNoCallOut() {
    for (Method method : TwoMoons.class.getDeclaredMethods()) {
      if (Modifier.isPublic(method.getModifiers())) {
        Check.due("README.md shows " + method.getName(), shown.contains(method.getName()));
      }
    }
  }

  private static void leavesNoTestOut(String readme) {
    for (String name : new File("src/test/java").list()) {
      if (name.endsWith("Test.java")) {
        String test = name.substring(0, name.length() - 5);
        Check.due("README.md tells what " + test + " is about", readme.contains("| `" + test + "` |"));
      }
    }
  }
}
