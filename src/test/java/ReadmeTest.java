import java.lang.reflect.Method;
import java.nio.file.Files;
import java.nio.file.Path;
import java.util.regex.Matcher;
import java.util.regex.Pattern;

/** The calls that README.md shows, with the answers that stand behind them there. */
public final class ReadmeTest {
  private static final Checks CHECKS = new Checks("ReadmeTest");
  private static final Pattern PUT = Pattern.compile("put\\(over, \"([^\"]*)\"\\);");
  private static final Pattern CALL =
      Pattern.compile("over\\.(\\w+)\\(([^)]*)\\); +// (-?\\d+|true|false)\\b.*");

  public static void main(String[] args) throws ReflectiveOperationException, java.io.IOException {
    FirstOver over = new FirstOver();
    int calls = 0;
    for (String line : Files.readAllLines(Path.of("README.md"))) {
      Matcher put = PUT.matcher(line);
      Matcher call = CALL.matcher(line);
      if (put.matches()) {
        Checks.put(over, put.group(1));
      } else if (call.matches()) {
        calls++;
        CHECKS.due(line, answer(over, call.group(1), call.group(2)), number(call.group(3)));
      } else {
        CHECKS.due("a call that shows its answer: " + line, line.startsWith("over."), false);
      }
    }
    CHECKS.due("calls are shown", calls > 20, true);
    CHECKS.end();
  }

  private static long answer(FirstOver over, String name, String arguments)
      throws ReflectiveOperationException {
    String[] told = arguments.isEmpty() ? new String[0] : arguments.split(", ");
    for (Method method : FirstOver.class.getMethods()) {
      if (method.getName().equals(name) && method.getParameterCount() == told.length) {
        Object[] given = new Object[told.length];
        for (int i = 0; i < told.length; i++) {
          boolean isNumber = method.getParameterTypes()[i] == int.class;
          given[i] = isNumber ? (Object) Integer.valueOf(told[i]) : Boolean.valueOf(told[i]);
        }
        return number(String.valueOf(method.invoke(over, given)));
      }
    }
    throw new IllegalStateException("no call " + name + "(" + arguments + ")");
  }

  private static long number(String answer) {
    return answer.equals("true") ? 1 : answer.equals("false") ? 0 : Long.parseLong(answer);
  }
}
