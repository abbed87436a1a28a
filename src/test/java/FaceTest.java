import java.io.IOException;
import java.lang.reflect.Constructor;
import java.lang.reflect.Field;
import java.lang.reflect.Method;
import java.lang.reflect.Modifier;
import java.nio.file.Files;
import java.nio.file.Path;
import java.util.ArrayList;
import java.util.Arrays;
import java.util.List;
import java.util.Random;
import java.util.Set;
import java.util.TreeSet;
import java.util.regex.Matcher;
import java.util.regex.Pattern;

/** The document's face, the rules of LANGUAGE.md that a reader of lines can look at, and any arguments in any state. */
public final class FaceTest {
  private static final Path SOURCE = Path.of("src/main/java/MirrorsOnStrike.java");
  private static final Path DOCUMENT = Path.of("../shared/DOC.md");
  private static final int[] ENDS = {Integer.MIN_VALUE, -65536, -10, -2, -1, 0, 1, 6, 7, 8, 12, 31, 32, 60, 61, 96,
    100, 127, 128, 255, 256, 999, 65536, Integer.MAX_VALUE};
  private static final Check check = new Check();

  public static void main(String[] args) throws Exception {
    face();
    words();
    lengths();
    anyArguments();
    check.end("FaceTest");
  }

  private static void face() throws IOException {
    Set<String> due = new TreeSet<>();
    Matcher m = Pattern.compile("    public int (\\w+)\\(([^)]*)\\);").matcher(Files.readString(DOCUMENT));
    while (m.find()) {
      int many = m.group(2).isEmpty() ? 0 : m.group(2).split(",").length;
      due.add(m.group(1) + "/" + many);
    }
    Set<String> got = new TreeSet<>();
    for (Method method : MirrorsOnStrike.class.getDeclaredMethods()) {
      boolean open = Modifier.isPublic(method.getModifiers());
      check.is(method.getName() + " is public or private", open || Modifier.isPrivate(method.getModifiers()) ? 1 : 0, 1);
      if (open) {
        check.is(method.getName() + " answers an int", method.getReturnType() == int.class ? 1 : 0, 1);
        got.add(method.getName() + "/" + method.getParameterCount());
      }
    }
    check.is("methods of the document", due.size(), 60);
    check.is("the face: " + got, got.equals(due) ? 1 : 0, 1);
    for (Method method : MirrorsOnStrike.class.getDeclaredMethods()) {
      boolean hidden = Modifier.isPrivate(method.getModifiers());
      check.is("no private " + method.getName(), hidden && due.stream().anyMatch(d -> d.startsWith(method.getName() + "/")) ? 1 : 0, 0);
    }
    for (Field field : MirrorsOnStrike.class.getDeclaredFields()) {
      check.is(field.getName() + " is private", Modifier.isPrivate(field.getModifiers()) ? 1 : 0, 1);
    }
    Constructor<?>[] made = MirrorsOnStrike.class.getDeclaredConstructors();
    check.is("one constructor", made.length == 1 && Modifier.isPublic(made[0].getModifiers()) ? 1 : 0, 1);
    check.is("final", Modifier.isFinal(MirrorsOnStrike.class.getModifiers()) ? 1 : 0, 1);
  }

  private static void words() throws IOException {
    String code = Files.readString(SOURCE).replaceAll("/\\*(?s:.*?)\\*/", "").replaceAll("//.*", "");
    String[] none = {"\\bthrow\\b", "\\btry\\b", "\\bcatch\\b", "\\bsynchronized\\b", "\\bassert\\b", "->", "::",
      "Exact\\b", "\\bpackage\\b", "\\bvar\\b", "\\bdouble\\b", "\\bfloat\\b", "\\bHash\\w*", "\\bMap\\b", "\\bSystem\\.(?!arraycopy)",
      "import (?!java\\.util\\.Arrays;)", "static \\{", "\"", "[^\\x00-\\x7f]"};
    for (String word : none) {
      Matcher m = Pattern.compile(word).matcher(code);
      check.is("no " + word, m.find() ? 1 : 0, 0);
    }
    int makers = 0;
    for (String line : code.split("\n")) {
      boolean kept = line.matches("\\s*(private )?(final|static).* = new .*") || line.matches("\\s*states\\[i\\] = new Folk\\(\\);");
      makers += line.contains("new ") && !kept ? 1 : 0;
    }
    check.is("made in calls", makers, 0);
  }

  private static void lengths() throws IOException {
    List<String> lines = Files.readAllLines(SOURCE);
    Pattern head = Pattern.compile("^( {2}| {4})(public|private|static|int|boolean|void|Past).*\\(([^)]*)\\) \\{$");
    int methods = 0;
    for (int i = 0; i < lines.size(); i++) {
      Matcher m = head.matcher(lines.get(i));
      if (!m.matches()) {
        continue;
      }
      methods++;
      String end = m.group(1) + "}";
      int last = i;
      while (!lines.get(last).equals(end)) {
        last++;
      }
      check.is("short: " + lines.get(i), last - i <= 60 ? 1 : 0, 1);
      check.is("parameters: " + lines.get(i), m.group(3).split(",").length <= 7 ? 1 : 0, 1);
    }
    check.is("methods were found", methods > 100 ? 1 : 0, 1);
  }

  /** Calls by lot, their arguments small or at the ends of int: none may throw. */
  private static void anyArguments() throws ReflectiveOperationException {
    List<Method> calls = new ArrayList<>();
    for (Method method : MirrorsOnStrike.class.getDeclaredMethods()) {
      if (Modifier.isPublic(method.getModifiers())) {
        calls.add(method);
      }
    }
    calls.sort((a, b) -> a.getName().compareTo(b.getName()));
    Random lot = new Random(1);
    for (int run = 0; run < 300; run++) {
      MirrorsOnStrike x = new MirrorsOnStrike();
      Check.tell(x, run % 3 == 0 ? "w01;" : "p3450;p4199;p5000;a01;a10;a12;w01;g12;");
      for (int i = 0; i < 512; i++) {
        answers(x, calls.get(lot.nextInt(calls.size())), lot);
      }
    }
  }

  private static void answers(MirrorsOnStrike x, Method call, Random lot) throws ReflectiveOperationException {
    Object[] values = new Object[call.getParameterCount()];
    for (int i = 0; i < values.length; i++) {
      values[i] = lot.nextInt(3) == 0 ? ENDS[lot.nextInt(ENDS.length)] : lot.nextInt(8);
    }
    int refusals = Check.refusalsOf(x);
    try {
      int answer = (Integer) call.invoke(x, values);
      boolean refused = Check.refusalsOf(x) != refusals;
      boolean tells = answer >= -9 || call.getName().equals("town") || call.getName().equals("worth");
      check.is(call.getName() + Arrays.toString(values) + " tells " + answer, tells || refused ? 1 : 0, 1);
    } catch (java.lang.reflect.InvocationTargetException thrown) {
      check.is(call.getName() + Arrays.toString(values) + " threw " + thrown.getCause(), 1, 0);
    }
  }
}
