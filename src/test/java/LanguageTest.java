import java.io.IOException;
import java.lang.reflect.Field;
import java.lang.reflect.Method;
import java.lang.reflect.Modifier;
import java.nio.file.Files;
import java.nio.file.Path;
import java.util.ArrayList;
import java.util.Arrays;
import java.util.List;
import java.util.Set;
import java.util.TreeSet;
import java.util.regex.Pattern;

/** The rules of LANGUAGE.md that can be seen from outside or from single lines. */
public final class LanguageTest {
  private static final Checks CHECKS = new Checks("LanguageTest");
  private static final Path SOURCE = Path.of("src/main/java/FirstOver.java");
  private static final String[] FACE = {
    "int all(int, int)",
    "int alike(int, int, int)",
    "int ask(int, int)",
    "int asks(int, int)",
    "int back(int)",
    "int bar(int, int)",
    "int being(int, int)",
    "int bridge(int, int)",
    "int cheap(int, int)",
    "int cheats(int)",
    "int count(int)",
    "int feed(int, int, int, int, int)",
    "int forget()",
    "boolean hold(int)",
    "int holds(int, int)",
    "int mend(int)",
    "int mendFirst(int)",
    "int openIn(int)",
    "int place()",
    "int read()",
    "boolean restore(int)",
    "int send(int, int, int)",
    "int set(int, int)",
    "int shuts(int, int)",
    "int stands(int)",
    "int stonesIn(int, int)",
    "int sure(int, int)",
    "int taken(int, int, int)",
    "int tell(int, boolean)",
    "boolean undo()",
    "int way(int, int)",
    "int went(int, int)",
    "int year(int, int, int)",
    "int years(int)"
  };

  public static void main(String[] args) throws IOException {
    face();
    classes();
    lines();
    CHECKS.end();
  }

  private static String told(Method method) {
    StringBuilder told = new StringBuilder(method.getReturnType() + " " + method.getName() + "(");
    for (Class<?> type : method.getParameterTypes()) {
      told.append(told.charAt(told.length() - 1) == '(' ? "" : ", ").append(type);
    }
    return told.append(")").toString();
  }

  private static void face() {
    Set<String> told = new TreeSet<>();
    for (Method method : FirstOver.class.getDeclaredMethods()) {
      boolean isFace = Modifier.isPublic(method.getModifiers());
      CHECKS.due(method + " is private", isFace || Modifier.isPrivate(method.getModifiers()), true);
      if (isFace) {
        told.add(told(method));
      }
    }
    CHECKS.due("the face, but for " + told, told.equals(new TreeSet<>(Arrays.asList(FACE))), true);
    CHECKS.due("constructors", FirstOver.class.getConstructors().length, 1);
    CHECKS.due("final", Modifier.isFinal(FirstOver.class.getModifiers()), true);
    for (Field field : FirstOver.class.getDeclaredFields()) {
      boolean isNone = field.getName().equals("NONE");
      CHECKS.due(field + " is public", Modifier.isPublic(field.getModifiers()), isNone);
      CHECKS.due(field + " is private", Modifier.isPrivate(field.getModifiers()), !isNone);
    }
  }

  private static void classes() {
    Set<String> names = new TreeSet<>();
    for (String method : FACE) {
      names.add(method.substring(method.indexOf(' ') + 1, method.indexOf('(')));
    }
    List<Class<?>> all = new ArrayList<>(List.of(FirstOver.class.getDeclaredClasses()));
    CHECKS.due("at most 12 classes", all.size() < 12, true);
    for (Class<?> inside : all) {
      int kind = inside.getModifiers();
      CHECKS.due(inside + " is static", Modifier.isStatic(kind), true);
      CHECKS.due(inside + " is not public", Modifier.isPublic(kind) || Modifier.isProtected(kind), false);
      for (Method method : inside.getDeclaredMethods()) {
        CHECKS.due(method + " bears a public name", names.contains(method.getName()), false);
      }
    }
    all.add(FirstOver.class);
    for (Class<?> one : all) {
      int fields = 0;
      for (Field field : one.getDeclaredFields()) {
        boolean isStatic = Modifier.isStatic(field.getModifiers());
        fields += isStatic ? 0 : 1;
        CHECKS.due(field + " is final", !isStatic || Modifier.isFinal(field.getModifiers()), true);
      }
      CHECKS.due(one + " has few fields", fields <= 20, true);
      for (Method method : one.getDeclaredMethods()) {
        CHECKS.due(method + " has few parameters", method.getParameterCount() <= 7, true);
      }
    }
  }

  private static void lines() throws IOException {
    Pattern ruledOut =
        Pattern.compile(
            "\\b(throw|try|catch|synchronized|assert|float|double|Object|Class|Thread|Random"
                + "|hashCode|toString|equals)\\b|->|::|Exact\\(|\\bstatic \\{|\\bString\\.|\\bSystem\\.[^a]");
    // What is made is made with the object: a field's row, or in a constructor.
    Pattern made =
        Pattern.compile(" *(private )?(static )?(final )?[\\w\\[\\]]*( \\w+)? = new [\\w]+[\\[(].*[\\])];");
    int at = 0;
    int length = 0;
    for (String line : Files.readAllLines(SOURCE)) {
      at++;
      String code = line.strip().startsWith("*") || line.strip().startsWith("/*") ? "" : line;
      CHECKS.due("line " + at + " is ruled out: " + line, ruledOut.matcher(code).find(), false);
      CHECKS.due("line " + at + " imports", code.startsWith("import ") && !code.equals("import java.util.Arrays;"), false);
      if (code.contains("new ") && !code.contains("//")) {
        CHECKS.due("line " + at + " makes: " + line, made.matcher(code).matches(), true);
      }
      boolean isStart = code.matches(" {2,4}[\\w\\[\\] ]+\\(.*\\{");
      length = isStart ? 0 : length + 1;
      CHECKS.due("line " + at + " ends a long method", code.matches(" {2,4}}") && length > 60 && !code.equals("  }"), false);
    }
  }
}
