/** What the tests have in common: answers looked at and counted, towns told in one go. */
final class Check {
  private int looked;
  private int wrong;

  void is(String what, long got, long due) {
    looked++;
    if (got != due) {
      wrong++;
      System.out.println(what + " answered " + got + ", due is " + due);
    }
  }

  /** A refusal answers its number and counts it, and nothing else. */
  void refused(String what, MirrorsOnStrike x, java.util.function.IntSupplier call, int number) {
    int before = x.count(10 - number);
    int others = refusalsOf(x);
    is(what, call.getAsInt(), number);
    is(what + ", counted", x.count(10 - number), before + 1);
    is(what + ", counted once", refusalsOf(x), others + 1);
  }

  static int refusalsOf(MirrorsOnStrike x) {
    int all = 0;
    for (int what = 11; what <= 16; what++) {
      all += x.count(what);
    }
    return all;
  }

  static int tell(MirrorsOnStrike x, String text) {
    for (int i = 0; i < text.length(); i++) {
      x.feed(text.charAt(i));
    }
    return x.town();
  }

  static MirrorsOnStrike told(String... texts) {
    MirrorsOnStrike x = new MirrorsOnStrike();
    for (String text : texts) {
      if (tell(x, text) < 1) {
        throw new IllegalStateException("a test tells a town with a fault: " + text);
      }
    }
    return x;
  }

  static void rowOf(MirrorsOnStrike x, int... values) {
    x.clear();
    for (int v : values) {
      x.row(v);
    }
  }

  void end(String name) {
    System.out.println(name + ": " + looked + " answers looked at, " + wrong + " wrong");
    if (wrong > 0 || looked == 0) {
      System.exit(1);
    }
  }
}
