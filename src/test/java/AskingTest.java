/** Promises 21 to 25, 27, 31, 38 to 41, 43, 45 to 48 and 50: whom to ask, and who asks whom. */
public final class AskingTest {
  private static final String SEVEN = "p0350;p1440;p2530;p3460;p4270;p5020;p0099;";
  private static final Check check = new Check();

  public static void main(String[] args) {
    knows();
    nearest();
    fair();
    worth();
    newEar();
    cheat();
    barber();
    echo();
    loops();
    humble();
    highest();
    pairs();
    honest();
    chain();
    clique();
    cut();
    panel();
    check.end("AskingTest");
  }

  private static void knows() {
    MirrorsOnStrike x = Check.told("p0050;b040;p1400;p2200;");
    check.is("54 and 46", x.knows(0), 6);
    check.is("knows now", x.knows(1), 0);
    x.comes(0, 0, 7);
    check.is("one is fewer", x.knows(0), 8);
    x.comes(0, 0, 7);
    check.is("the least", x.knows(0), 8);
    x.asks(0, 1);
    check.is("whomever he asks now", x.knows(0), 8);
    x.believes(0, 50);
    check.is("knows, though he asks", x.knows(0), 0);
    check.is("cut", Check.told("p0050;b040;p1300;p2100;").knows(0), 6);
    check.is("the first one", Check.told("p0050;p0050;b140;").knows(1), 1);
    check.is("alone", Check.told("p0050;b040;").knows(0), -9);
    check.is("none fits", Check.told("p0050;b040;p1100;p1200;").knows(0), -9);
    check.is("pair of least bits", Check.told("p0050;b040;p1400;p2200;p1400;p2200;").knows(0), 6);
    check.refused("nobody", x, () -> x.knows(5), -1);
    check.refused("below", x, () -> x.knows(-1), -1);
  }

  private static void nearest() {
    MirrorsOnStrike x = Check.told("p0050;p1400;");
    check.is("only one", x.nearest(0, 0), 2);
    check.is("how near", x.nearest(0, 1), 4);
    x.comes(1, 4, 0);
    check.is("fewest, then least", x.nearest(0, 0), 2);
    x.comes(2, 3, 0);
    check.is("54, 54 and 44, cut", x.nearest(0, 0), 14);
    check.is("by 0", x.nearest(0, 1), 0);
    x.kind(3, 2, 4);
    check.is("54, 54 and 42", x.nearest(0, 0), 14);
    x.kind(2, 2, 2);
    check.is("54 and 46", x.nearest(0, 0), 6);
    x.comes(0, 0, 0);
    check.is("one is fewer", x.nearest(0, 0), 16);
    x.asks(0, 1);
    check.is("nearest, whomever he asks", x.nearest(0, 0), 16);
    x.believes(0, 50);
    check.is("whatever he believes", x.nearest(0, 0), 16);
    check.is("the first one", Check.told("p1150;p0050;").nearest(1, 0), 1);
    MirrorsOnStrike alone = Check.told("p0050;");
    check.is("alone", alone.nearest(0, 0), -9);
    check.is("alone", alone.nearest(0, 1), -9);
    check.refused("nobody", x, () -> x.nearest(5, 2), -1);
    check.refused("what", x, () -> x.nearest(0, 2), -2);
    check.refused("what -1", x, () -> x.nearest(0, -1), -2);
  }

  private static void fair() {
    MirrorsOnStrike x = Check.told("p0050;p1400;p2200;");
    check.is("4", x.fair(0, 1, 4), 2);
    check.is("3", x.fair(0, 1, 3), 0);
    check.is("both", x.fair(0, 2, 0), 1);
    check.is("not so many", x.fair(0, 3, 99), 0);
    check.is("the first one", Check.told("p1150;p0050;").fair(1, 1, 1), 1);
    check.is("all of three", Check.told(SEVEN).fair(3, 3, 99), 20);
    check.is("all of six", Check.told(SEVEN).fair(3, 6, 99), 1);
    check.refused("nobody", x, () -> x.fair(3, 0, -1), -1);
    check.refused("k below", x, () -> x.fair(0, 0, 100), -4);
    check.refused("d below", x, () -> x.fair(0, 7, -1), -4);
    check.refused("k above", x, () -> x.fair(0, 7, 0), -6);
    check.refused("d above", x, () -> x.fair(0, 1, 100), -6);
  }

  private static void worth() {
    MirrorsOnStrike x = Check.told(SEVEN, "a01;a02;a13;a34;");
    check.is("below 0", x.worth(3, 2), -15);
    check.is("above 0", x.worth(1, 1), 7);
    check.is("nobody asks him", x.worth(5, 2), 0);
    check.is("now", x.worth(3, 0), 0);
    check.is("asked still", x.person(1, 4), 8);
    check.is("nobody", x.worth(7, -1), 1000000001);
    check.is("below", x.worth(0, -1), 1000000004);
    check.is("above", x.worth(0, 61), 1000000006);
    check.is("-1", x.count(11), 1);
    check.is("-4", x.count(14), 1);
    check.is("-6", x.count(16), 1);
  }

  private static void newEar() {
    MirrorsOnStrike x = Check.told("p0050;b030;p0040;p1560;");
    check.is("now it helps nothing", x.newEar(0), -9);
    check.is("asks 1", x.newEar(1), 1);
    check.is("asks nobody yet", x.person(0, 4), 0);
    x.asks(0, 1);
    check.is("asks already", x.newEar(1), -9);
    MirrorsOnStrike y = Check.told("p0050;p0040;p0060;b210;");
    check.is("of several the least", y.newEar(60), 20);
    y.asks(2, 0);
    check.is("asks already, nothing less", y.newEar(60), -9);
    check.is("of seven the last", Check.told(SEVEN, "b600;").newEar(1), 60);
    check.is("alone", Check.told("p0000;b099;").newEar(1), -9);
    check.is("nobody", new MirrorsOnStrike().newEar(1), -9);
    check.refused("below", x, () -> x.newEar(-1), -4);
    check.refused("above", x, () -> x.newEar(61), -6);
  }

  private static void cheat() {
    MirrorsOnStrike x = Check.told("p0050;p1440;p2130;a01;");
    check.is("one", x.cheat(0, 54, 0), 1);
    check.is("50", x.cheat(0, 54, 1), 50);
    check.is("99 at most", x.cheat(0, 99, 0), 5);
    check.is("the least", x.cheat(0, 99, 1), 95);
    check.is("none", x.cheat(0, 3, 0), 0);
    check.is("none", x.cheat(0, 3, 1), -9);
    x.asks(0, 2);
    check.is("two: 0 and 1 of 0 and of 1", x.cheat(0, 2, 0), 2);
    check.is("least", x.cheat(0, 2, 1), 0);
    x.asks(0, 1);
    x.asks(0, 2);
    check.refused("nobody", x, () -> x.cheat(3, -1, 0), -1);
    check.refused("below", x, () -> x.cheat(0, -1, 2), -4);
    check.refused("above", x, () -> x.cheat(0, 100, 2), -6);
    check.refused("what", x, () -> x.cheat(0, 0, 2), -2);
    check.refused("asks nobody", x, () -> x.cheat(0, 0, 1), -3);
  }

  private static void barber() {
    MirrorsOnStrike x = Check.told("p0050;p1440;p5030;p4270;a01;");
    check.is("enough", x.barber(0, 54), 0);
    check.is("more than enough", x.barber(0, 0), 0);
    check.is("six higher", x.barber(0, 60), 6);
    check.is("up to 95", x.barber(0, 99), 45);
    x.asks(0, 1);
    x.asks(0, 2);
    check.is("lower for a spoon", x.barber(0, 60), 11);
    check.is("a spoon's 99", x.barber(0, 99), 50);
    x.asks(0, 2);
    x.asks(0, 3);
    check.is("blind", x.barber(0, 66), 0);
    check.is("never", x.barber(0, 67), -9);
    MirrorsOnStrike low = Check.told("p0050;p2530;a01;");
    check.is("a spiteful one's 89", low.barber(0, 89), 49);
    check.is("no look above 99", low.barber(0, 90), -9);
    check.refused("nobody", x, () -> x.barber(4, -1), -1);
    check.refused("below", x, () -> x.barber(1, -1), -4);
    check.refused("above", x, () -> x.barber(1, 100), -6);
    check.refused("asks nobody", x, () -> x.barber(1, 0), -3);
  }

  private static void echo() {
    MirrorsOnStrike x = Check.told(SEVEN, "a01;a12;a21;a34;");
    int[] due = {6, 6, 6, 16, 0, 0, 0};
    for (int one = 0; one < 7; one++) {
      check.is("echo(" + one + ")", x.echo(one), due[one]);
    }
    MirrorsOnStrike ring = Check.told(SEVEN, "a01;a12;a23;a34;a45;a56;a60;");
    check.is("ring", ring.echo(3), 127);
    check.refused("nobody", x, () -> x.echo(7), -1);
    check.refused("below", x, () -> x.echo(-1), -1);
  }

  private static void loops() {
    MirrorsOnStrike x = Check.told(SEVEN, "a01;a12;a21;a34;");
    check.is("loops", x.loops(0), 6);
    check.is("deaf", x.loops(1), 112);
    check.is("unheard", x.loops(2), 105);
    check.is("ring", Check.told("p0000;p0000;p0000;p0000;", "a01;a12;a20;a03;").loops(0), 7);
    check.refused("what", x, () -> x.loops(3), -2);
    check.refused("what -1", x, () -> x.loops(-1), -2);
  }

  private static void humble() {
    MirrorsOnStrike x = Check.told("p0050;p1440;p2230;a01;");
    check.is("flatterer", x.humble(1), 1);
    check.is("now", x.humble(0), -9);
    check.is("still as it was", x.person(1, 1), 4);
    x.asks(0, 1);
    check.is("nobody asks", x.humble(60), -9);
    x.asks(0, 1);
    x.asks(1, 2);
    check.is("of several the least", x.humble(1), 1);
    x.kind(1, 1, 3);
    check.is("4 against 3", x.humble(1), 2);
    check.is("the first one", Check.told("p1150;p0050;a10;").humble(1), 0);
    check.is("of seven the spiteful", Check.told(SEVEN, "a62;").humble(1), 2);
    check.is("a blind one would be farther", Check.told(SEVEN, "a34;").humble(1), -9);
    check.is("nobody", new MirrorsOnStrike().humble(1), -9);
    check.refused("below", x, () -> x.humble(-1), -4);
    check.refused("above", x, () -> x.humble(61), -6);
  }

  private static void highest() {
    MirrorsOnStrike x = Check.told(SEVEN);
    check.is("highest", x.highest(0, 0), 66);
    check.is("lowest", x.highest(0, 1), 40);
    check.is("highest of the last", x.highest(6, 0), 99);
    check.is("lowest of the last", x.highest(6, 1), 0);
    check.is("the first one", Check.told("p1150;p0050;").highest(1, 0), 51);
    MirrorsOnStrike alone = Check.told("p0050;");
    check.is("alone", alone.highest(0, 0), -9);
    check.is("alone", alone.highest(0, 1), -9);
    check.refused("nobody", x, () -> x.highest(7, 2), -1);
    check.refused("what", x, () -> x.highest(0, 2), -2);
    check.refused("what -1", x, () -> x.highest(0, -1), -2);
  }

  private static void pairs() {
    MirrorsOnStrike x = Check.told(SEVEN, "a01;a10;a23;a32;a56;");
    check.is("farthest", x.pairs(), 23);
    x.believes(1, 80);
    check.is("of several the first", x.pairs(), 1);
    x.believes(2, 29);
    check.is("by one", x.pairs(), 23);
    x.asks(3, 2);
    check.is("both must", x.pairs(), 1);
    x.believes(1, 50);
    check.is("not apart", x.pairs(), 1);
    x.asks(0, 1);
    check.is("no two", x.pairs(), -9);
  }

  private static void honest() {
    MirrorsOnStrike x = Check.told("p1450;p2530;");
    check.is("flatterer", x.honest(0), 0);
    check.is("by 4", x.honest(1), 4);
    MirrorsOnStrike y = Check.told("p2530;p1450;");
    check.is("flatterer", y.honest(0), 1);
    check.is("by 4", y.honest(1), 4);
    y.comes(1, 0, 99);
    check.is("true to all", y.honest(0), 2);
    check.is("by nothing", y.honest(1), 0);
    MirrorsOnStrike z = Check.told("p1450;p1430;p1410;");
    check.is("the least number", z.honest(0), 0);
    check.is("all together", z.honest(1), 8);
    check.is("one alone", Check.told("p0050;").honest(0), -9);
    check.is("one alone", Check.told("p0050;").honest(1), -9);
    check.refused("what", x, () -> x.honest(2), -2);
    check.refused("what -1, nobody there", x, () -> x.honest(-1), -2);
  }

  private static void chain() {
    MirrorsOnStrike x = Check.told(SEVEN, "a01;a12;a23;a34;a45;a56;a13;");
    check.is("1", x.chain(0, 1), 1);
    check.is("3", x.chain(0, 4), 3);
    check.is("5", x.chain(0, 6), 5);
    check.is("not back", x.chain(6, 0), -9);
    x.asks(1, 3);
    check.is("6", x.chain(0, 6), 6);
    check.refused("one twice", x, () -> x.chain(3, 3), -1);
    check.refused("nobody", x, () -> x.chain(7, 0), -1);
    check.refused("to nobody", x, () -> x.chain(0, -1), -1);
  }

  private static void clique() {
    check.is("nobody", new MirrorsOnStrike().clique(), 0);
    MirrorsOnStrike x = Check.told(SEVEN);
    check.is("one alone", x.clique(), 1);
    Check.tell(x, "a01;a12;a20;");
    check.is("one way only", x.clique(), 1);
    Check.tell(x, "a56;a65;a34;a43;");
    check.is("the least of two", x.clique(), 24);
    Check.tell(x, "a35;a53;a45;a54;");
    check.is("three", x.clique(), 56);
    Check.tell(x, "a10;a21;a02;");
    check.is("the least of three", x.clique(), 7);
    Check.tell(x, "a36;a63;a46;a64;");
    check.is("four", x.clique(), 120);
    check.is("all", Check.told("p0000;p0000;a01;a10;").clique(), 3);
  }

  private static void cut() {
    MirrorsOnStrike x = Check.told(SEVEN, "a01;a02;a13;a23;");
    check.is("both", x.cut(0, 3), 6);
    check.is("asks him himself", x.cut(0, 1), -9);
    check.is("no chain", x.cut(3, 0), 0);
    x.asks(2, 3);
    check.is("one", x.cut(0, 3), 2);
    Check.tell(x, "a01;a21;");
    check.is("of several the least", x.cut(0, 3), 2);
    Check.tell(x, "a21;a13;a24;a43;");
    check.is("2 or 4", x.cut(0, 3), 4);
    Check.tell(x, "a05;a53;");
    check.is("fewest, then least", x.cut(0, 3), 36);
    Check.tell(x, "a01;a14;a05;");
    check.is("fewest ahead of least", x.cut(0, 3), 16);
    check.is("all others", Check.told("p0000;p0000;p0000;p0000;", "a01;a13;a02;a23;").cut(0, 3), 6);
    check.refused("one twice", x, () -> x.cut(3, 3), -1);
    check.refused("nobody", x, () -> x.cut(7, 3), -1);
    check.refused("to nobody", x, () -> x.cut(3, 7), -1);
  }

  private static void panel() {
    MirrorsOnStrike x = Check.told(SEVEN);
    int[] due = {0, 16, 24, 26, 58, 122, 126};
    for (int k = 1; k <= 6; k++) {
      check.is("panel of " + k, x.panel(0, k), due[k]);
    }
    MirrorsOnStrike y = Check.told("p0050;p0000;p1100;p0000;");
    check.is("of several the least", y.panel(0, 2), 6);
    check.is("all", y.panel(0, 3), 14);
    check.is("not so many", y.panel(0, 4), -9);
    check.is("the first one", Check.told("p0050;p0050;").panel(1, 1), 1);
    check.is("alone", Check.told("p0050;").panel(0, 1), -9);
    check.refused("nobody", x, () -> x.panel(7, 0), -1);
    check.refused("below", x, () -> x.panel(0, 0), -4);
    check.refused("above", x, () -> x.panel(0, 7), -6);
  }
}
