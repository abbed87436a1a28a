import java.io.IOException;
import java.lang.reflect.Constructor;
import java.lang.reflect.Field;
import java.lang.reflect.Method;
import java.lang.reflect.Modifier;
import java.nio.file.Files;
import java.nio.file.Path;
import java.util.ArrayList;
import java.util.Arrays;
import java.util.List;
import java.util.Random;
import java.util.Set;
import java.util.TreeSet;
import java.util.function.IntUnaryOperator;
import java.util.regex.Matcher;
import java.util.regex.Pattern;

/** The document's face, the rules of LANGUAGE.md that a reader of lines can look at, and any arguments in any state. */
public final class FaceTest {
  private static final Path SOURCE = Path.of("src/main/java/MirrorsOnStrike.java");
  private static final Path DOCUMENT = Path.of("../shared/DOC.md");
  private static final int[] ENDS = {Integer.MIN_VALUE, -65536, -10, -2, -1, 0, 1, 6, 7, 8, 12, 31, 32, 60, 61, 96,
    100, 127, 128, 255, 256, 999, 65536, Integer.MAX_VALUE};
  /** Some 600,000 objects of 16 bytes, the smallest that there are. */
  private static final long ROOM = 9600000;
  private static final Check check = new Check();

  public static void main(String[] args) throws Exception {
    face();
    words();
    madeInCalls();
    lengths();
    anyArguments();
    check.end("FaceTest");
  }

  private static void face() throws IOException {
    Set<String> due = new TreeSet<>();
    Matcher m = Pattern.compile("    public int (\\w+)\\(([^)]*)\\);").matcher(Files.readString(DOCUMENT));
    while (m.find()) {
      int many = m.group(2).isEmpty() ? 0 : m.group(2).split(",").length;
      due.add(m.group(1) + "/" + many);
    }
    Set<String> got = new TreeSet<>();
    for (Method method : MirrorsOnStrike.class.getDeclaredMethods()) {
      boolean open = Modifier.isPublic(method.getModifiers());
      check.is(method.getName() + " is public or private", open || Modifier.isPrivate(method.getModifiers()) ? 1 : 0, 1);
      if (open) {
        check.is(method.getName() + " answers an int", method.getReturnType() == int.class ? 1 : 0, 1);
        got.add(method.getName() + "/" + method.getParameterCount());
      }
    }
    check.is("methods of the document", due.size(), 60);
    check.is("the face: " + got, got.equals(due) ? 1 : 0, 1);
    for (Method method : MirrorsOnStrike.class.getDeclaredMethods()) {
      boolean hidden = Modifier.isPrivate(method.getModifiers());
      check.is("no private " + method.getName(), hidden && due.stream().anyMatch(d -> d.startsWith(method.getName() + "/")) ? 1 : 0, 0);
    }
    for (Field field : MirrorsOnStrike.class.getDeclaredFields()) {
      check.is(field.getName() + " is private", Modifier.isPrivate(field.getModifiers()) ? 1 : 0, 1);
    }
    Constructor<?>[] made = MirrorsOnStrike.class.getDeclaredConstructors();
    check.is("one constructor", made.length == 1 && Modifier.isPublic(made[0].getModifiers()) ? 1 : 0, 1);
    check.is("final", Modifier.isFinal(MirrorsOnStrike.class.getModifiers()) ? 1 : 0, 1);
  }

  private static void words() throws IOException {
    String code = Files.readString(SOURCE).replaceAll("/\\*(?s:.*?)\\*/", "").replaceAll("//.*", "");
    String[] none = {"\\bthrow\\b", "\\btry\\b", "\\bcatch\\b", "\\bsynchronized\\b", "\\bassert\\b", "->", "::",
      "Exact\\b", "\\bpackage\\b", "\\bHash\\w*", "\\bMap\\b", "\\bSystem\\.(?!arraycopy)",
      "import (?!java\\.util\\.(Arrays|ArrayList|List|Iterator);)", "static \\{", "[^\\x00-\\x7f]"};
    for (String word : none) {
      Matcher m = Pattern.compile(word).matcher(code);
      check.is("no " + word, m.find() ? 1 : 0, 0);
    }
  }

  private static void madeInCalls() {
    MirrorsOnStrike x = Check.told("p3450;p4199;p4160;p4000;p4270;p3020;p3399;a01;a10;a12;a23;a34;a45;a56;a60;b000;");
    Check.rowOf(x, 99, 99, 99, 99, 99, 99, 99);
    IntUnaryOperator[] dearest = {n -> x.lots(20, n, 0), n -> x.newEar(60), n -> x.humble(60), n -> x.tellsMost(0),
      n -> x.tour(0, 255), n -> x.cover(0, 7), n -> x.photos(-1), n -> x.cut(0, 6), n -> x.nearest(0, 0), n -> x.clique(),
      n -> x.settles(), n -> x.round(), n -> x.worth(1, 60), n -> x.changed(0, 60, 3), n -> x.middle(0, 0)};
    com.sun.management.ThreadMXBean room = (com.sun.management.ThreadMXBean) java.lang.management.ManagementFactory.getThreadMXBean();
    for (int i = 0; i < dearest.length; i++) {
      long before = room.getCurrentThreadAllocatedBytes();
      for (int n = 0; n < 16; n++) {
        dearest[i].applyAsInt(n);
      }
      long each = (room.getCurrentThreadAllocatedBytes() - before) / 16;
      check.is("the room for 512 calls of dear call " + i, each * 512 > ROOM ? each : 0, 0);
    }
  }

  private static void lengths() throws IOException {
    List<String> lines = Files.readAllLines(SOURCE);
    Pattern head = Pattern.compile("^( {2}| {4})(public|private|static|int|boolean|void|Past).*\\(([^)]*)\\) \\{$");
    int methods = 0;
    for (int i = 0; i < lines.size(); i++) {
      Matcher m = head.matcher(lines.get(i));
      if (!m.matches()) {
        continue;
      }
      methods++;
      String end = m.group(1) + "}";
      int last = i;
      while (!lines.get(last).equals(end)) {
        last++;
      }
      check.is("short: " + lines.get(i), last - i <= 60 ? 1 : 0, 1);
      check.is("parameters: " + lines.get(i), m.group(3).split(",").length <= 7 ? 1 : 0, 1);
    }
    check.is("methods were found", methods >= 60 ? 1 : 0, 1);
  }

  /** Calls by lot, their arguments small or at the ends of int: none may throw, not even behind the 512th. */
  private static void anyArguments() throws ReflectiveOperationException {
    List<Method> calls = new ArrayList<>();
    for (Method method : MirrorsOnStrike.class.getDeclaredMethods()) {
      if (Modifier.isPublic(method.getModifiers())) {
        calls.add(method);
      }
    }
    calls.sort((a, b) -> a.getName().compareTo(b.getName()));
    Random lot = new Random(1);
    for (int run = 0; run < 1000; run++) {
      MirrorsOnStrike x = new MirrorsOnStrike();
      String town = run % 3 == 0 ? "w01;" : "p3450;p4199;p5000;a01;a10;a12;w01;g12;";
      Check.tell(x, town);
      for (int i = town.length() + 2; i <= 600; i++) {
        answers(x, calls.get(lot.nextInt(calls.size())), lot, i <= 512);
      }
    }
  }

  private static void answers(MirrorsOnStrike x, Method call, Random lot, boolean promised) throws ReflectiveOperationException {
    Object[] values = new Object[call.getParameterCount()];
    for (int i = 0; i < values.length; i++) {
      values[i] = lot.nextInt(3) == 0 ? ENDS[lot.nextInt(ENDS.length)] : lot.nextInt(8);
    }
    try {
      int answer = (Integer) call.invoke(x, values);
      boolean tells = answer >= -9 || call.getName().equals("town") || call.getName().equals("worth");
      check.is(call.getName() + Arrays.toString(values) + " tells " + answer, tells || !promised ? 1 : 0, 1);
    } catch (java.lang.reflect.InvocationTargetException thrown) {
      check.is(call.getName() + Arrays.toString(values) + " threw " + thrown.getCause(), 1, 0);
    }
  }
}
