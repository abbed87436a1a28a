import java.io.IOException;
import java.io.UncheckedIOException;
import java.nio.file.Files;
import java.nio.file.Path;
import java.util.HashMap;
import java.util.List;
import java.util.Map;
import java.util.Set;
import java.util.TreeSet;
import java.util.function.Supplier;
import java.util.function.ToIntFunction;
import java.util.regex.Matcher;
import java.util.regex.Pattern;

/** Tests of single sentences of the document: each says which promise it holds and in which words it stands there. */
final class Edge {
  static final String SEVEN = "p0350;p1440;p2530;p3460;p4270;p5020;p0099;";
  /** PEOPLE 0 and 1, both 99: behind an even n both are 99 - n, behind an odd one 98 - n and 100 - n, down to 0. */
  static final String FALL = "p4099;p4199;a01;a10;";
  static final String LINE = "w01;w12;w23;w34;w45;w56;w67;";
  static final String STAR = "w01;w02;w03;w04;w05;w06;w07;";
  static final int LEAST = Integer.MIN_VALUE;
  static final int MOST = Integer.MAX_VALUE;
  private static final int PROMISES = 61;
  private static final int WORTH_REFUSED = 1000000000;

  /** A call with one argument that is looked at. */
  interface Call {
    int on(MirrorsOnStrike x, int v);
  }

  private final String document;
  private final String terms;
  /** Of each promise that has a test, the answers below 0 that were due there. */
  private final Map<Integer, Set<Integer>> below = new HashMap<>();
  private int promise;
  private String at = "";
  private int sentences;
  private int looked;
  private int wrong;

  Edge(Path path) {
    try {
      document = Files.readString(path).replaceAll("\\s+", " ");
    } catch (IOException e) {
      throw new UncheckedIOException(e);
    }
    terms = document.substring(0, document.indexOf("## Promise 1:"));
  }

  // ---- Objects to begin with

  static MirrorsOnStrike nobody() {
    return new MirrorsOnStrike();
  }

  static MirrorsOnStrike alone() {
    return Check.told("p0050;");
  }

  static MirrorsOnStrike seven() {
    return Check.told(SEVEN);
  }

  /** PEOPLE 0 .. 4, of whom only 3 asks nobody; a number of everything else, and an image that is otherwise. */
  static MirrorsOnStrike rich() {
    MirrorsOnStrike x = Check.told("p0350;p1440;p2530;p3460;p4270;a01;a02;a13;a41;w01;w12;w23;g12;g31;n5;");
    x.image();
    x.comes(0, 1, 2);
    x.restore();
    x.way(5, 6);
    x.hangs(6, 3);
    x.asks(2, 0);
    x.believes(1, 44);
    x.kind(2, 4, 1);
    x.week();
    x.row(50);
    x.row(99);
    x.row(31);
    feed(x, "n2;");
    return x;
  }

  static void feed(MirrorsOnStrike x, String text) {
    for (int i = 0; i < text.length(); i++) {
      x.feed(text.charAt(i));
    }
  }

  /** So many WEEKS more by letters, which takes the fewest calls. */
  static MirrorsOnStrike weeksMore(MirrorsOnStrike x, int weeks) {
    int left = weeks;
    while (left > 0) {
      StringBuilder text = new StringBuilder();
      while (left > 0 && text.length() < 96) {
        int n = Math.min(9, left);
        text.append('n').append(n).append(';');
        left -= n;
      }
      Check.tell(x, text.toString());
    }
    return x;
  }

  // ---- A test

  /** Begins the test of a sentence, which must stand where the document says what this promise does, or ahead of all. */
  void of(int number, String sentence) {
    promise = number;
    at = "promise " + number + ", \"" + sentence + "\": ";
    sentences++;
    below.putIfAbsent(number, new TreeSet<>());
    is("it stands in the document", section(number).contains(sentence) || terms.contains(sentence) ? 1 : 0, 1);
  }

  private String section(int number) {
    int begin = document.indexOf("## Promise " + number + ":");
    int end = document.indexOf(" ## ", begin);
    return begin < 0 || end < 0 ? "" : document.substring(begin, end);
  }

  void is(String what, long got, long due) {
    looked++;
    if (due < 0 || due > WORTH_REFUSED) {
      below.get(promise).add(number(due));
    }
    if (got != due) {
      wrong++;
      System.out.println(at + what + " answered " + got + ", due is " + due);
    }
  }

  private static int number(long due) {
    return (int) (due < 0 ? due : WORTH_REFUSED - due);
  }

  /** No refusal is counted. */
  void taken(String what, Supplier<MirrorsOnStrike> made, ToIntFunction<MirrorsOnStrike> call) {
    MirrorsOnStrike x = made.get();
    int before = Check.refusalsOf(x);
    call.applyAsInt(x);
    is(what + " is taken: refusals", Check.refusalsOf(x), before);
  }

  /** It answers the number and counts it once; beside an object that had not that call, nothing else is otherwise. */
  void refused(String what, Supplier<MirrorsOnStrike> made, ToIntFunction<MirrorsOnStrike> call, int due) {
    MirrorsOnStrike x = made.get();
    MirrorsOnStrike twin = made.get();
    is(what, call.applyAsInt(x), due);
    for (int no = -1; no >= -6; no--) {
      is(what + ", REFUSALS " + no, x.count(10 - no), twin.count(10 - no) + (no == number(due) ? 1 : 0));
    }
    same(what, x, twin);
  }

  void same(String what, MirrorsOnStrike x, MirrorsOnStrike twin) {
    List<String> got = State.of(x);
    List<String> due = State.of(twin);
    is(what + ": as much to be seen", got.size(), due.size());
    for (int i = 0; i < Math.min(got.size(), due.size()); i++) {
      looked++;
      if (!got.get(i).equals(due.get(i))) {
        wrong++;
        System.out.println(at + what + ": then " + got.get(i) + ", due is " + due.get(i));
        return;
      }
    }
  }

  /** Taken from least to most; below and above of it refused, with a number for each side. */
  void ends(String what, Supplier<MirrorsOnStrike> made, Call call, int least, int below, int most, int above) {
    taken(what + " with " + least, made, x -> call.on(x, least));
    taken(what + " with " + most, made, x -> call.on(x, most));
    for (int v : new int[] {least - 1, LEAST}) {
      refused(what + " with " + v, made, x -> call.on(x, v), below);
    }
    for (int v : new int[] {most + 1, MOST}) {
      refused(what + " with " + v, made, x -> call.on(x, v), above);
    }
  }

  // ---- All tests

  /** Every promise has a test, and every refusal and every -9 that it tells was due in one. */
  void end(String name) {
    for (int number = 1; number <= PROMISES; number++) {
      if (!below.containsKey(number)) {
        wrong++;
        System.out.println("promise " + number + " has no test");
        continue;
      }
      String told = section(number).replaceAll("\\(i -1\\)|below -1|REFUSALS -1 .. -6", "");
      Matcher m = Pattern.compile("-\\d").matcher(told);
      while (m.find()) {
        if (!below.get(number).contains(Integer.parseInt(m.group()))) {
          wrong++;
          System.out.println("promise " + number + ": no test in which " + m.group() + " is due");
        }
      }
    }
    System.out.println(name + ": " + sentences + " sentences, " + looked + " answers looked at, " + wrong + " wrong");
    if (wrong > 0 || looked == 0) {
      System.exit(1);
    }
  }
}
