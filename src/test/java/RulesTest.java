import java.io.IOException;
import java.lang.reflect.Constructor;
import java.lang.reflect.Field;
import java.lang.reflect.Method;
import java.lang.reflect.Modifier;
import java.nio.file.Files;
import java.nio.file.Path;
import java.util.Arrays;
import java.util.List;
import java.util.TreeSet;
import java.util.regex.Matcher;
import java.util.regex.Pattern;

/** The face of the class, and those rules of LANGUAGE.md that can be looked for in its text. */
public final class RulesTest {
  private static final Path SOURCE = Path.of("src/main/java/TableCatalog.java");
  private static final String[] FACE = {"act()int", "alike(int,int)int", "ask(int,int,int)int", "asked(int,int)int",
    "broken()int", "drop(int)int", "end(int)boolean", "fault(int)int", "fed(int,int,int)boolean",
    "feed(int,int,int,int,int)int", "found(int)int", "freeze(int)boolean", "from(int,int,int)int", "late(int)int",
    "named()int", "own(int,int)boolean", "promise(int,int)boolean", "retype(int,int,int)int", "run(int)boolean",
    "table(int,int)int", "today(int)boolean", "touch(int,int)int", "type(int,int)int", "unused(int)int"};

  public static void main(String[] args) throws IOException {
    face();
    nested();
    words(code(Files.readString(SOURCE)));
    Due.close();
  }

  private static String told(Method method) {
    StringBuilder text = new StringBuilder(method.getName() + "(");
    for (Class<?> type : method.getParameterTypes()) {
      text.append(text.charAt(text.length() - 1) == '(' ? "" : ",").append(type.getName());
    }
    return text.append(")").append(method.getReturnType().getName()).toString();
  }

  private static void face() {
    Class<?> face = TableCatalog.class;
    Due.is("public and final", Modifier.isPublic(face.getModifiers()) && Modifier.isFinal(face.getModifiers()), true);
    TreeSet<String> methods = new TreeSet<>();
    for (Method method : face.getDeclaredMethods()) {
      if (!Modifier.isPrivate(method.getModifiers())) {
        methods.add(told(method));
        Due.is("public: " + method, Modifier.isPublic(method.getModifiers()), true);
      }
    }
    Due.is("the methods of the face " + methods, methods.equals(new TreeSet<>(Arrays.asList(FACE))), true);
    Constructor<?>[] constructors = face.getDeclaredConstructors();
    Due.is("constructors", constructors.length, 1);
    Due.is("constructor without parameters", constructors[0].getParameterCount(), 0);
    for (Field field : face.getDeclaredFields()) {
      boolean constant = field.getName().equals("NONE");
      Due.is("kept private: " + field, Modifier.isPrivate(field.getModifiers()), !constant);
      Due.is("static fields are final: " + field, !Modifier.isStatic(field.getModifiers())
          || Modifier.isFinal(field.getModifiers()), true);
    }
  }

  private static void nested() {
    List<String> face = Arrays.stream(FACE).map(told -> told.substring(0, told.indexOf('('))).toList();
    Class<?>[] all = TableCatalog.class.getDeclaredClasses();
    Due.is("at most twelve classes", all.length + 1 <= 12, true);
    for (Class<?> one : all) {
      Due.is("static: " + one, Modifier.isStatic(one.getModifiers()), true);
      Due.is("fields of " + one, one.getDeclaredFields().length <= 20, true);
    }
    for (Class<?> one : all) {
      for (Method method : one.getDeclaredMethods()) {
        Due.is("named as one of the face: " + method, face.contains(method.getName()), false);
        Due.is("parameters of " + method, method.getParameterCount() <= 7, true);
      }
    }
    for (Method method : TableCatalog.class.getDeclaredMethods()) {
      boolean hidden = Modifier.isPrivate(method.getModifiers());
      Due.is("named as one of the face: " + method, hidden && face.contains(method.getName()), false);
      Due.is("parameters of " + method, method.getParameterCount() <= 7, true);
    }
  }

  /** The program without its comments and the insides of its texts. */
  private static String code(String text) {
    return text.replaceAll("(?s)/\\*.*?\\*/", "").replaceAll("//[^\n]*", "").replaceAll("\"[^\"]*\"", "\"\"")
        .replaceAll("'(\\\\.|[^'])'", "'_'");
  }

  private static void words(String code) {
    for (String word : new String[] {"throw", "throws", "try", "catch", "finally", "synchronized", "assert", "import",
      "package", "instanceof", "record", "interface", "extends", "implements", "protected", "var", "yield", "Object",
      "System\\.out", "hashCode", "toString", "double", "float"}) {
      Matcher matcher = Pattern.compile("\\b" + word + "\\b").matcher(code);
      Due.is("the word " + word, matcher.find(), false);
    }
    Due.is("no lambda", code.contains("->"), false);
    Due.is("no method reference", code.contains("::"), false);
    Due.is("no text joined by +", Pattern.compile("\"\\s*\\+|\\+\\s*\"").matcher(code).find(), false);
    Due.is("no name ending in Exact", code.contains("Exact"), false);
    Due.is("no division but by a constant", Pattern.compile("[/%](?! (STRIDE|32)\\b)").matcher(code).find(), false);
    Due.is("signs below 128", code.chars().allMatch(sign -> sign < 128), true);
    Matcher methods = Pattern.compile("(?m)^( {4}| {8})(?! )[^\n;=]*\\) \\{\n((?!\\1\\}\n).*\n)*").matcher(code);
    int count = 0;
    while (methods.find()) {
      count++;
      Due.is("lines of " + methods.group().strip().split("\n")[0], methods.group().split("\n").length <= 60, true);
    }
    Due.is("methods looked at", count > 80, true);
  }
}
