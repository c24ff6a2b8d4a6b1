import java.io.IOException;
import java.lang.reflect.Method;
import java.lang.reflect.Modifier;
import java.nio.file.Files;
import java.nio.file.Path;
import java.util.Arrays;
import java.util.Set;
import java.util.TreeSet;
import java.util.regex.Matcher;
import java.util.regex.Pattern;

/** Makes the calls of README.md's example and looks whether they answer what it says. */
public final class ReadmeTest {
  private static final Pattern NEW = Pattern.compile("TableCatalog x = new TableCatalog\\(\\);");
  private static final Pattern PUT = Pattern.compile("put\\(x, \"(.*)\"\\);");
  private static final Pattern CALL = Pattern.compile("x\\.(\\w+)\\(([^()]*)\\); *// (-?\\d+|true|false)\\b.*");

  public static void main(String[] args) throws IOException, ReflectiveOperationException {
    String readme = Files.readString(Path.of("README.md"));
    TableCatalog x = null;
    for (String line : example(readme).split("\n")) {
      Matcher put = PUT.matcher(line);
      Matcher call = CALL.matcher(line);
      if (NEW.matcher(line).matches()) {
        x = new TableCatalog();
      } else if (put.matches()) {
        Due.put(x, put.group(1));
      } else if (call.matches()) {
        Due.is("README.md: " + line, answer(x, call.group(1), call.group(2)), due(call.group(3)));
      } else {
        Due.is("README.md, a line that says nothing: " + line, line.isEmpty() || line.startsWith("//"), true);
      }
    }
    everyMethodIsShown(readme);
    Due.close();
  }

  private static String example(String readme) {
    int start = readme.indexOf("```java\nTableCatalog x");
    int end = readme.indexOf("```", start + 7);
    Due.is("README.md has an example", start >= 0 && end > start, true);
    return readme.substring(start + 8, end);
  }

  private static long answer(TableCatalog x, String name, String arguments) throws ReflectiveOperationException {
    Object[] values = arguments.isEmpty() ? new Object[0]
        : Arrays.stream(arguments.split(", ")).map(ReadmeTest::argument).toArray();
    Class<?>[] kinds = new Class<?>[values.length];
    Arrays.fill(kinds, int.class);
    Object answer = TableCatalog.class.getMethod(name, kinds).invoke(x, values);
    return answer instanceof Boolean yes ? yes ? 1 : 0 : (int) answer;
  }

  private static int argument(String word) {
    return word.charAt(0) == '\'' ? word.charAt(1) : Integer.parseInt(word);
  }

  private static long due(String word) {
    return word.equals("true") ? 1 : word.equals("false") ? 0 : Long.parseLong(word);
  }

  private static void everyMethodIsShown(String readme) {
    Set<String> names = new TreeSet<>();
    for (Method method : TableCatalog.class.getDeclaredMethods()) {
      if (Modifier.isPublic(method.getModifiers())) {
        names.add(method.getName());
      }
    }
    for (String name : names) {
      Due.is("README.md shows " + name, readme.contains("x." + name + "("), true);
    }
  }

  private ReadmeTest() {
  }
}
