/** Promises 15 to 20, 26, 42, 44, 49 and 54: what weeks in mind bring. */
public final class WeeksTest {
  private static final String SEVEN = "p0350;p1440;p2530;p3460;p4270;p5020;p0099;";
  private static final String ASKS = "a01;a02;a13;a34;";
  /** Both fall by 2 every second week, the first one a week ahead. */
  private static final String FALL = "p4099;p4199;a01;a10;";
  private static final Check check = new Check();

  public static void main(String[] args) {
    belief();
    fooled();
    error();
    clash();
    settlesAndRound();
    sisters();
    spread();
    calm();
    wanted();
    changed();
    nothingChanges();
    check.end("WeeksTest");
  }

  private static void belief() {
    MirrorsOnStrike x = Check.told(SEVEN, ASKS);
    check.is("now", x.belief(1, 0), 40);
    check.is("1 week", x.belief(1, 1), 52);
    check.is("2 weeks", x.belief(1, 2), 55);
    check.is("60 weeks", x.belief(1, 60), 55);
    check.is("asks nobody", x.belief(6, 60), 99);
    check.is("fallen by 60", Check.told(FALL).belief(0, 60), 39);
    check.refused("nobody", x, () -> x.belief(7, -1), -1);
    check.refused("below", x, () -> x.belief(0, -1), -4);
    check.refused("above", x, () -> x.belief(0, 61), -6);
  }

  private static void fooled() {
    MirrorsOnStrike x = Check.told(SEVEN, ASKS);
    check.is("now", x.fooled(0, 0), 0);
    check.is("by more than 2", x.fooled(1, 2), 11);
    check.is("by more than 5", x.fooled(1, 5), 10);
    check.is("by more than 6", x.fooled(1, 6), 2);
    check.is("by more than 14", x.fooled(2, 14), 2);
    check.is("by more than 15", x.fooled(60, 15), 0);
    check.refused("n below", x, () -> x.fooled(-1, 100), -4);
    check.refused("d below", x, () -> x.fooled(61, -1), -4);
    check.refused("n above", x, () -> x.fooled(61, 0), -6);
    check.refused("d above", x, () -> x.fooled(0, 100), -6);
  }

  private static void error() {
    MirrorsOnStrike x = Check.told(SEVEN, ASKS);
    check.is("now", x.error(0), 0);
    check.is("1 week", x.error(1), 21);
    check.is("2 weeks", x.error(2), 24);
    check.is("60 weeks", x.error(60), 24);
    check.refused("below", x, () -> x.error(-1), -4);
    check.refused("above", x, () -> x.error(61), -6);
  }

  private static void clash() {
    MirrorsOnStrike x = Check.told(SEVEN, ASKS);
    check.is("when, 2", x.clash(2, 0), 1);
    check.is("who, 2", x.clash(2, 1), 0);
    check.is("when, 5", x.clash(5, 0), 1);
    check.is("who, 5", x.clash(5, 1), 1);
    check.is("when, 14", x.clash(14, 0), 2);
    check.is("who, 14", x.clash(14, 1), 1);
    check.is("when, 15", x.clash(15, 0), -9);
    check.is("who, 15", x.clash(15, 1), -9);
    x.believes(6, 0);
    check.is("now", x.clash(98, 0), 0);
    check.is("last of all", x.clash(98, 1), 6);
    MirrorsOnStrike late = Check.told("p4060;p4199;b099;a01;a10;");
    check.is("behind 60", late.clash(59, 0), 60);
    check.is("who behind 60", late.clash(59, 1), 1);
    check.is("behind more than 60", late.clash(60, 0), -9);
    check.refused("below", x, () -> x.clash(-1, 2), -4);
    check.refused("above", x, () -> x.clash(100, 2), -6);
    check.refused("what", x, () -> x.clash(0, 2), -2);
    check.refused("what -1", x, () -> x.clash(0, -1), -2);
  }

  private static void settlesAndRound() {
    MirrorsOnStrike x = Check.told(SEVEN, ASKS);
    check.is("settles", x.settles(), 2);
    check.is("settled goes round", x.round(), 1);
    MirrorsOnStrike two = Check.told("p4010;p4020;a01;a10;");
    check.is("never settles", two.settles(), -9);
    check.is("round of 2", two.round(), 2);
    MirrorsOnStrike seven = Check.told("p4010;p4020;p4030;p4040;p4050;p4060;p4070;", "a01;a12;a20;a34;a45;a56;a63;");
    check.is("round of 12", seven.round(), 12);
    MirrorsOnStrike fall = Check.told(FALL);
    check.is("falls beyond 60", fall.settles(), -9);
    check.is("does not come again", fall.round(), -9);
    fall.believes(0, 61);
    fall.believes(1, 61);
    check.is("not by 60", fall.settles(), -9);
    fall.believes(0, 60);
    fall.believes(1, 60);
    check.is("just by 60", fall.settles(), 60);
    check.is("round from then", fall.round(), 1);
    check.is("round from 60 on", Check.told("p4099;p4099;a01;").round(), 1);
  }

  private static void sisters() {
    MirrorsOnStrike x = Check.told("p3450;p3270;p0099;a02;");
    int[] apart = {20, 1, 10, 6};
    for (int n = 0; n < apart.length; n++) {
      check.is("apart behind " + n, x.sisters(0, 1, n, 0), apart[n]);
      check.is("the other way", x.sisters(1, 0, n, 0), apart[n]);
      check.is("greatest to " + n, x.sisters(0, 1, n, 1), 20);
    }
    check.is("still asks whom he asked", x.person(0, 4), 4);
    x.believes(0, 60);
    x.believes(1, 60);
    check.is("now", x.sisters(0, 1, 0, 1), 0);
    check.is("behind 2", x.sisters(0, 1, 2, 0), 6);
    check.is("greatest to 2", x.sisters(0, 1, 2, 1), 11);
    check.refused("one twice", x, () -> x.sisters(1, 1, -1, 0), -1);
    check.refused("nobody", x, () -> x.sisters(0, 3, 0, 0), -1);
    check.refused("below", x, () -> x.sisters(0, 1, -1, 2), -4);
    check.refused("above", x, () -> x.sisters(0, 1, 61, 2), -6);
    check.refused("what", x, () -> x.sisters(0, 1, 60, 2), -2);
    sistersWithOthers();
  }

  /** The others go on as they do, and what two say may hang on nobody else. */
  private static void sistersWithOthers() {
    MirrorsOnStrike x = Check.told("p4010;p4090;p4050;a02;a12;a20;");
    check.is("swap", x.sisters(0, 1, 1, 0), 80);
    check.is("alone", x.sisters(0, 1, 60, 1), 80);
    check.is("swap with the third", x.sisters(0, 2, 1, 0), 40);
  }

  private static void spread() {
    MirrorsOnStrike x = Check.told(SEVEN, "a65;b098;");
    check.is("now", x.spread(0), 79);
    check.is("behind a week", x.spread(1), 98);
    check.is("nobody", new MirrorsOnStrike().spread(60), 0);
    check.is("one alone", Check.told("p0050;").spread(0), 0);
    check.is("two", Check.told("p0050;p0030;").spread(0), 20);
    check.is("two", Check.told("p0030;p0050;").spread(0), 20);
    check.refused("below", x, () -> x.spread(-1), -4);
    check.refused("above", x, () -> x.spread(61), -6);
  }

  private static void calm() {
    MirrorsOnStrike x = Check.told("p0050;p1440;a01;");
    check.is("behind 1", x.calm(3), 1);
    check.is("nobody fooled by more", x.calm(4), -9);
    x.believes(0, 10);
    check.is("moves first", x.calm(3), 1);
    check.is("fooled and moves, then neither", x.calm(39), -9);
    MirrorsOnStrike y = Check.told("p0050;b010;");
    check.is("at once", y.calm(39), 0);
    check.is("nothing moves", y.calm(0), 0);
    check.is("not by more", y.calm(40), -9);
    MirrorsOnStrike fall = Check.told(FALL);
    check.is("moves by 2", fall.calm(1), -9);
    check.is("moves by no more than 2", fall.calm(2), 3);
    check.is("behind 60", Check.told("p4060;p4199;b099;a01;a10;").calm(59), 60);
    check.is("behind more than 60", Check.told("p4060;p4199;b099;a01;a10;").calm(60), -9);
    check.refused("below", x, () -> x.calm(-1), -4);
    check.refused("above", x, () -> x.calm(100), -6);
  }

  private static void wanted() {
    MirrorsOnStrike x = Check.told(SEVEN, ASKS);
    check.is("now", x.wanted(1, 40), 0);
    check.is("1", x.wanted(1, 52), 1);
    check.is("2", x.wanted(1, 53), 2);
    check.is("2, just", x.wanted(1, 55), 2);
    check.is("never", x.wanted(1, 56), -9);
    MirrorsOnStrike slow = Check.told("p4185;p4061;p4028;p3021;p4088;", "a01;a03;a04;a12;a14;a20;a21;a31;a32;a42;",
        "b000;b102;b200;b303;b400;");
    check.is("behind 60", slow.wanted(1, 53), 60);
    check.is("not by 60", slow.wanted(1, 54), -9);
    check.refused("nobody", x, () -> x.wanted(7, -1), -1);
    check.refused("below", x, () -> x.wanted(0, -1), -4);
    check.refused("above", x, () -> x.wanted(0, 100), -6);
  }

  private static void changed() {
    MirrorsOnStrike x = Check.told(SEVEN, ASKS);
    check.is("flatterer more", x.changed(1, 1, 9), 1);
    check.is("now", x.changed(1, 0, 9), 0);
    check.is("as it is", x.changed(1, 60, 4), 0);
    check.is("blind, behind 1", x.changed(4, 1, 0), 1);
    check.is("blind, behind 2", x.changed(4, 2, 0), 2);
    check.is("person", x.changed(0, 60, 9), 0);
    check.refused("nobody", x, () -> x.changed(7, -1, 0), -1);
    check.refused("n below", x, () -> x.changed(0, -1, 10), -4);
    check.refused("v below", x, () -> x.changed(0, 61, -1), -4);
    check.refused("n above", x, () -> x.changed(0, 61, 0), -6);
    check.refused("v above", x, () -> x.changed(0, 0, 10), -6);
  }

  private static void nothingChanges() {
    MirrorsOnStrike x = Check.told(SEVEN, ASKS);
    x.belief(1, 60);
    x.settles();
    x.round();
    x.clash(0, 0);
    x.changed(4, 60, 0);
    x.sisters(0, 1, 60, 1);
    x.wanted(0, 99);
    x.calm(0);
    check.is("weeks", x.count(1), 0);
    check.is("beliefs", x.count(3), x.count(2));
    check.is("figure", x.person(4, 1), 2);
    check.is("asks", x.person(0, 4), 6);
    check.is("nothing to be taken back", x.count(7), 0);
  }
}
