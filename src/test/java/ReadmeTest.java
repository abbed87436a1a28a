import java.io.IOException;
import java.lang.reflect.Method;
import java.lang.reflect.Modifier;
import java.nio.file.Files;
import java.nio.file.Path;
import java.util.regex.Matcher;
import java.util.regex.Pattern;

/** README.md: the answers in its examples are those of the program, and it names every call. */
public final class ReadmeTest {
  private static final Path README = Path.of("README.md");
  private static final Pattern CALL = Pattern.compile("x\\.(\\w+)\\(([^)]*)\\);\\s+// (-?\\d+): .*");
  private static final Pattern TOLD = Pattern.compile("for \\(char letter : \"([^\"]*)\"\\.toCharArray\\(\\)\\) \\{");
  private static final Check check = new Check();

  public static void main(String[] args) throws IOException, ReflectiveOperationException {
    examples();
    everyCall();
    check.end("ReadmeTest");
  }

  private static void examples() throws IOException, ReflectiveOperationException {
    MirrorsOnStrike x = null;
    int calls = 0;
    for (String line : Files.readAllLines(README)) {
      if (line.equals("MirrorsOnStrike x = new MirrorsOnStrike();")) {
        x = new MirrorsOnStrike();
      }
      Matcher told = TOLD.matcher(line);
      if (told.matches()) {
        Edge.feed(x, told.group(1));
      }
      Matcher call = CALL.matcher(line);
      if (call.matches()) {
        calls++;
        check.is(line, answer(x, call.group(1), call.group(2)), Integer.parseInt(call.group(3)));
      }
    }
    check.is("calls were found", calls > 20 ? 1 : 0, 1);
  }

  private static int answer(MirrorsOnStrike x, String name, String arguments) throws ReflectiveOperationException {
    String[] told = arguments.isEmpty() ? new String[0] : arguments.split(", ");
    Class<?>[] types = new Class<?>[told.length];
    Object[] values = new Object[told.length];
    for (int i = 0; i < told.length; i++) {
      types[i] = int.class;
      values[i] = Integer.valueOf(told[i]);
    }
    return (Integer) MirrorsOnStrike.class.getMethod(name, types).invoke(x, values);
  }

  private static void everyCall() throws IOException {
    String page = Files.readString(README);
    for (Method method : MirrorsOnStrike.class.getDeclaredMethods()) {
      if (Modifier.isPublic(method.getModifiers())) {
        check.is("it names " + method.getName(), page.contains("`" + method.getName() + "`") ? 1 : 0, 1);
      }
    }
  }
}
