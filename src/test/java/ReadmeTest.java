import java.lang.reflect.Method;
import java.nio.file.Files;
import java.nio.file.Path;
import java.util.regex.Matcher;
import java.util.regex.Pattern;

/** Makes the calls that README.md shows, one behind the other: each must answer what stands behind it. */
public final class ReadmeTest {
  private static final Pattern CALL = Pattern.compile("x\\.(\\w+)\\((.*)\\); +// (-?\\d+)\\b.*");
  private static final String MADE = "NightLetIn x = new NightLetIn();";

  public static void main(String[] args) throws Exception {
    NightLetIn x = null;
    int calls = 0;
    for (String line : Files.readAllLines(Path.of("README.md"))) {
      Matcher call = CALL.matcher(line);
      if (line.equals(MADE)) {
        x = new NightLetIn();
      } else if (x != null && call.matches()) {
        Due.is("README: " + line, Long.parseLong(call.group(3)), answer(x, call.group(1), call.group(2)));
        calls++;
      } else {
        Due.is("README shows a call without its answer: " + line, 0, line.startsWith("x.") ? 1 : 0);
      }
    }
    Due.is("README shows calls", 1, calls > 0 ? 1 : 0);
    Due.end();
  }

  private static long answer(NightLetIn x, String name, String arguments) throws Exception {
    String[] told = arguments.isEmpty() ? new String[0] : arguments.split(", ");
    for (Method m : NightLetIn.class.getMethods()) {
      if (!m.getName().equals(name) || m.getParameterCount() != told.length) continue;
      Object[] values = new Object[told.length];
      for (int i = 0; i < told.length; i++) {
        int v = told[i].startsWith("'") ? told[i].charAt(1) : Integer.parseInt(told[i]);
        if (m.getParameterTypes()[i] == long.class) values[i] = (long) v;
        else values[i] = v;
      }
      return ((Number) m.invoke(x, values)).longValue();
    }
    Due.is("the face has " + name, 1, 0);
    return Long.MIN_VALUE;
  }

  private ReadmeTest() { }
}
