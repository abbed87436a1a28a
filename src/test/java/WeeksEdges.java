/** Promises 15 to 20, 24 to 26, 40, 42, 44, 49 and 54 at their edges: what comes behind n WEEKS. */
final class WeeksEdges {
  /** Behind 60 WEEKS 1 is 60 from his LOOK for the first time; 0 never is. */
  private static final String LATE = "p4060;p4199;b099;a01;a10;";
  private final Edge edge;

  WeeksEdges(Edge edge) {
    this.edge = edge;
  }

  void all() {
    beliefWho();
    beliefWeeks();
    beliefSeveral();
    beliefNowAndThen();
    beliefBeyondAllWeeks();
    fooledWeeks();
    fooledBy();
    fooledSeveral();
    fooledMoreThan();
    fooledFewAndMany();
    errorWeeks();
    errorFewAndMany();
    clashBy();
    clashWhat();
    clashSeveral();
    clashLeast();
    clashFirstOne();
    clashNone();
    settlesLeast();
    settlesNone();
    roundLeast();
    roundFromThen();
    roundNone();
    worthWho();
    worthWeeks();
    worthSeveral();
    worthBelow();
    worthNothing();
    newEarWeeks();
    newEarLessThanNow();
    newEarNone();
    newEarOfSeveral();
    sistersWho();
    sistersWeeks();
    sistersWhat();
    sistersSeveral();
    sistersGreatest();
    sistersOthers();
    humbleWeeks();
    humbleLessThanNow();
    humbleOfSeveral();
    spreadWeeks();
    spreadFewAndMany();
    calmBy();
    calmMoreThan();
    calmLeast();
    calmNone();
    wantedWho();
    wantedValues();
    wantedSeveral();
    wantedLeast();
    changedWho();
    changedWeeks();
    changedFigures();
    changedSeveral();
    changedFewAndMany();
  }

  private static MirrorsOnStrike fall() {
    return Check.told(Edge.FALL);
  }

  /** One whose BELIEF is so far above his LOOK, another one so far below. */
  private static MirrorsOnStrike apart(int far) {
    MirrorsOnStrike x = Check.told("p0000;p0099;");
    x.believes(0, far);
    x.believes(1, 99 - far);
    return x;
  }

  private void weeks(String what, Edge.Call call) {
    edge.ends(what, Edge::rich, call, 0, -4, 60, -6);
    edge.ends(what + ", one there", Edge::alone, call, 0, -4, 60, -6);
  }

  // ---- Promise 15

  private void beliefWho() {
    edge.of(15, "Behind n WEEKS what one BELIEVES. -1");
    edge.ends("belief(.., 3)", Edge::rich, (x, one) -> x.belief(one, 3), 0, -1, 4, -1);
    edge.ends("belief(.., 60), seven there", Edge::seven, (x, one) -> x.belief(one, 60), 0, -1, 6, -1);
    edge.refused("belief(0, 0), nobody there", Edge::nobody, x -> x.belief(0, 0), -1);
  }

  private void beliefWeeks() {
    edge.of(15, "-1; -4; -6 60.");
    weeks("belief(0, ..)", (x, n) -> x.belief(0, n));
  }

  private void beliefSeveral() {
    edge.of(15, "the first that fits in the order in which it tells them");
    edge.refused("belief(5, -1)", Edge::rich, x -> x.belief(5, -1), -1);
    edge.refused("belief(-1, 61)", Edge::rich, x -> x.belief(-1, 61), -1);
  }

  private void beliefNowAndThen() {
    edge.of(15, "In mind, behind n WEEKS (0 .. 60): what one BELIEVES");
    MirrorsOnStrike x = fall();
    for (int n = 0; n <= 60; n++) {
      edge.is("belief(0, " + n + ")", x.belief(0, n), 99 - n - n % 2);
      edge.is("belief(1, " + n + ")", x.belief(1, n), 99 - n + n % 2);
    }
    edge.same("nothing is otherwise", x, fall());
    edge.is("one who asks nobody", apart(7).belief(0, 60), 7);
  }

  private void beliefBeyondAllWeeks() {
    edge.of(15, "In mind, behind n WEEKS (0 .. 60)");
    MirrorsOnStrike x = Edge.weeksMore(Check.told("p4099;p4199;"), 999);
    x.asks(0, 1);
    x.asks(1, 0);
    edge.is("WEEKS 999: belief(0, 60)", x.belief(0, 60), 39);
    edge.is("WEEKS 999: belief(1, 59)", x.belief(1, 59), 41);
    edge.is("WEEKS 999: error(60)", x.error(60), 120);
    edge.is("WEEKS 999: settles()", x.settles(), -9);
    edge.is("WEEKS", x.count(1), 999);
    edge.is("REFUSALS", Check.refusalsOf(x), 0);
  }

  // ---- Promise 16

  private void fooledWeeks() {
    edge.of(16, "FOOLED (bits). -4 either; -6 (60; 99).");
    weeks("fooled(.., 5)", (x, n) -> x.fooled(n, 5));
    edge.ends("fooled(.., 0), nobody there", Edge::nobody, (x, n) -> x.fooled(n, 0), 0, -4, 60, -6);
  }

  private void fooledBy() {
    edge.of(16, "-4 either; -6 (60; 99).");
    edge.ends("fooled(3, ..)", Edge::rich, (x, d) -> x.fooled(3, d), 0, -4, 99, -6);
  }

  private void fooledSeveral() {
    edge.of(16, "the first that fits in the order in which it tells them");
    edge.refused("fooled(-1, 100)", Edge::rich, x -> x.fooled(-1, 100), -4);
    edge.refused("fooled(61, -1)", Edge::rich, x -> x.fooled(61, -1), -4);
    edge.refused("fooled(61, 100)", Edge::rich, x -> x.fooled(61, 100), -6);
  }

  private void fooledMoreThan() {
    edge.of(16, "PEOPLE (bits) whose BELIEF is more than d (0 .. 99) from their LOOK");
    for (int far : new int[] {1, 2, 50, 98, 99}) {
      MirrorsOnStrike x = apart(far);
      for (int n : new int[] {0, 60}) {
        edge.is("by one less", x.fooled(n, far - 1), 3);
        edge.is("by so many", x.fooled(n, far), 0);
        edge.is("by 99", x.fooled(n, 99), 0);
        edge.is("by 0", x.fooled(n, 0), 3);
      }
    }
    edge.is("not at all", apart(0).fooled(0, 0), 0);
  }

  private void fooledFewAndMany() {
    edge.of(16, "FOOLED: PEOPLE (bits)");
    edge.is("nobody there", Edge.nobody().fooled(60, 0), 0);
    edge.is("one there", Check.told("p0000;b001;").fooled(60, 0), 1);
    MirrorsOnStrike x = Edge.seven();
    for (int one = 0; one < 7; one++) {
      x.believes(one, 0);
    }
    edge.is("seven", x.fooled(0, 19), 127);
    edge.is("all but the one whose LOOK is 20", x.fooled(0, 20), 95);
    edge.is("the last one alone", x.fooled(0, 98), 64);
  }

  // ---- Promise 17

  private void errorWeeks() {
    edge.of(17, "ERROR. -4; -6 60.");
    weeks("error", MirrorsOnStrike::error);
    edge.ends("error, nobody there", Edge::nobody, MirrorsOnStrike::error, 0, -4, 60, -6);
  }

  private void errorFewAndMany() {
    edge.of(17, "ERROR: all these differences together");
    MirrorsOnStrike x = Edge.nobody();
    edge.is("nobody there", x.error(0), 0);
    for (int one = 0; one < 7; one++) {
      boolean low = one % 2 == 0;
      x.comes(0, 0, low ? 0 : 99);
      x.believes(one, low ? 99 : 0);
      edge.is("error(0)", x.error(0), 99 * (one + 1));
      edge.is("error(60)", x.error(60), 99 * (one + 1));
    }
    for (int n = 0; n <= 60; n++) {
      edge.is("error(" + n + "), both fall", fall().error(n), 2 * n);
    }
  }

  // ---- Promise 18

  private void clashBy() {
    edge.of(18, "-4; -6 99; -2.");
    edge.ends("clash(.., 0)", Edge::rich, (x, d) -> x.clash(d, 0), 0, -4, 99, -6);
    edge.ends("clash(.., 1), nobody there", Edge::nobody, (x, d) -> x.clash(d, 1), 0, -4, 99, -6);
  }

  private void clashWhat() {
    edge.of(18, "CLASH: the n (what 0; -9), who (1; -9)");
    edge.ends("clash(0, ..)", Edge::rich, (x, what) -> x.clash(0, what), 0, -2, 1, -2);
    edge.ends("clash(99, ..)", Edge::nobody, (x, what) -> x.clash(99, what), 0, -2, 1, -2);
  }

  private void clashSeveral() {
    edge.of(18, "the first that fits in the order in which it tells them");
    edge.refused("clash(-1, 2)", Edge::rich, x -> x.clash(-1, 2), -4);
    edge.refused("clash(100, -1)", Edge::rich, x -> x.clash(100, -1), -6);
  }

  private void clash(String what, MirrorsOnStrike x, int d, int n, int who) {
    edge.is(what + ": clash(" + d + ", 0)", x.clash(d, 0), n);
    edge.is(what + ": clash(" + d + ", 1)", x.clash(d, 1), who);
  }

  private void clashLeast() {
    edge.of(18, "CLASH: the least n (0 .. 60) behind which somebody is FOOLED by more than d");
    clash("at once", apart(99), 98, 0, 0);
    clash("by just d", apart(98), 98, -9, -9);
    clash("behind 1", Check.told("p0050;p1150;a01;"), 0, 1, 0);
    clash("behind 58", Check.told(LATE), 57, 58, 1);
    clash("behind 60", Check.told(LATE), 58, 60, 1);
    clash("behind 60", Check.told(LATE), 59, 60, 1);
    clash("behind 62", Check.told(LATE), 60, -9, -9);
  }

  private void clashFirstOne() {
    edge.of(18, "-9; the first such one");
    for (int one = 0; one < 7; one++) {
      MirrorsOnStrike x = Edge.seven();
      for (int other = one; other < 7; other++) {
        x.believes(other, 0);
      }
      clash("from " + one + " on", x, 5, 0, one);
    }
  }

  private void clashNone() {
    edge.of(18, "(what 0; -9), who (1; -9)");
    clash("nobody there", Edge.nobody(), 0, -9, -9);
    clash("one there who knows", Edge.alone(), 0, -9, -9);
    clash("all know", Edge.seven(), 0, -9, -9);
    clash("by more than 99", apart(99), 99, -9, -9);
  }

  // ---- Promises 19 and 20

  private static MirrorsOnStrike fallFrom(int v) {
    MirrorsOnStrike x = fall();
    x.believes(0, v);
    x.believes(1, v);
    return x;
  }

  private void settlesLeast() {
    edge.of(19, "SETTLES: the least n (0 .. 60) such that one WEEK more changes nothing");
    edge.is("nobody there", Edge.nobody().settles(), 0);
    edge.is("one there", Edge.alone().settles(), 0);
    edge.is("all know", Edge.seven().settles(), 0);
    edge.is("behind 1", Check.told("p0050;p1150;a01;").settles(), 1);
    for (int v = 0; v <= 60; v++) {
      edge.is("falls from " + v, fallFrom(v).settles(), v + v % 2);
    }
  }

  private void settlesNone() {
    edge.of(19, "SETTLES; -9.");
    edge.is("falls from 61", fallFrom(61).settles(), -9);
    edge.is("falls from 99", fallFrom(99).settles(), -9);
    edge.is("goes round", Check.told("p4010;p4020;a01;a10;").settles(), -9);
    edge.same("nothing is otherwise", settled(), fallFrom(61));
  }

  private static MirrorsOnStrike settled() {
    MirrorsOnStrike x = fallFrom(61);
    x.settles();
    x.round();
    return x;
  }

  private void roundLeast() {
    edge.of(20, "the least number of WEEKS (1 .. 60) behind which all BELIEVE the same again");
    edge.is("nobody there", Edge.nobody().round(), 1);
    edge.is("one there", Edge.alone().round(), 1);
    edge.is("nothing changes", Edge.seven().round(), 1);
    edge.is("two", Check.told("p4010;p4020;a01;a10;").round(), 2);
    edge.is("two of the same", Check.told("p4010;p4010;a01;a10;").round(), 1);
    String seven = "p4010;p4020;p4030;p4040;p4050;p4060;p4070;";
    edge.is("seven", Check.told(seven, "a01;a12;a23;a34;a45;a56;a60;").round(), 7);
    edge.is("three and four", Check.told(seven, "a01;a12;a20;a34;a45;a56;a63;").round(), 12);
    edge.is("two and five", Check.told(seven, "a01;a10;a23;a34;a45;a56;a62;").round(), 10);
    edge.is("five who ask several", eightByFive().round(), 8);
  }

  /** Five can take turns at no more than six; each believes one more than 50 if two of those he asks do. */
  private static MirrorsOnStrike eightByFive() {
    String five = "p4052;p4052;p4052;p4052;p4053;p0050;";
    String asks = "a01;a02;a04;a12;a13;a14;a20;a23;a24;a30;a31;a34;a40;a41;a42;a43;";
    return Check.told(five, asks, "a05;a15;a25;a35;a45;b051;b151;b250;b350;b450;");
  }

  private void roundFromThen() {
    edge.of(20, "ROUND: from WEEK 60 on");
    for (int v = 59; v <= 60; v++) {
      edge.is("falls from " + v, fallFrom(v).round(), 1);
    }
    edge.is("goes round behind a fall", Check.told("p4010;p4020;a01;a10;p4060;p4160;a23;a32;").round(), 2);
  }

  private void roundNone() {
    edge.of(20, "ROUND; -9.");
    edge.is("falls from 61", fallFrom(61).round(), -9);
    edge.is("falls from 62", fallFrom(62).round(), -9);
    edge.is("falls from 99", fallFrom(99).round(), -9);
  }

  // ---- Promise 24

  private void worthWho() {
    edge.of(24, "WORTH. Refused as told: -1");
    edge.ends("worth(.., 3)", Edge::rich, (x, one) -> x.worth(one, 3), 0, 1000000001, 4, 1000000001);
    edge.ends("worth(.., 3), seven there", Edge::seven, (x, one) -> x.worth(one, 3), 0, 1000000001, 6, 1000000001);
    edge.refused("worth(0, 0), nobody there", Edge::nobody, x -> x.worth(0, 0), 1000000001);
  }

  private void worthWeeks() {
    edge.of(24, "Of worth() 1000000000 less them (-1 as 1000000001).");
    edge.ends("worth(0, ..)", Edge::rich, (x, n) -> x.worth(0, n), 0, 1000000004, 60, 1000000006);
  }

  private void worthSeveral() {
    edge.of(24, "Refused as told: -1; -4; -6 60.");
    edge.refused("worth(5, -1)", Edge::rich, x -> x.worth(5, -1), 1000000001);
    edge.refused("worth(-1, 61)", Edge::rich, x -> x.worth(-1, 61), 1000000001);
  }

  private void worthBelow() {
    edge.of(24, "by how much ERROR behind n WEEKS would be more, if nobody asked one of PEOPLE (may be below 0)");
    MirrorsOnStrike lie = Check.told("p0000;p5900;a01;");
    edge.is("a liar", lie.worth(1, 1), -99);
    edge.is("a liar, now", lie.worth(1, 0), 0);
    MirrorsOnStrike truth = Check.told("p0000;b099;p0000;a01;");
    edge.is("one who says what is so", truth.worth(1, 1), 99);
    edge.is("behind 60", truth.worth(1, 60), 99);
    MirrorsOnStrike seven = Check.told("p0000;p0000;p0000;p0000;p0000;p0000;p5900;", "a06;a16;a26;a36;a46;a56;");
    edge.is("a liar to six", seven.worth(6, 1), -594);
    for (int n = 0; n <= 60; n++) {
      edge.is("both fall: worth(0, " + n + ")", fall().worth(0, n), ofOneAsking(n) - 2 * n);
    }
  }

  /** ERROR of FALL, when only 0 asks: behind the first WEEK he believes 97 for good. */
  private static int ofOneAsking(int n) {
    return n == 0 ? 0 : 2;
  }

  private void worthNothing() {
    edge.of(24, "WORTH: by how much ERROR behind n WEEKS would be more");
    edge.is("one alone", Check.told("p0000;b099;").worth(0, 60), 0);
    edge.is("nobody asks him", Edge.seven().worth(6, 60), 0);
    edge.is("another one says as much", Check.told("p0000;b099;p0000;p0000;a01;a02;").worth(1, 60), 0);
  }

  // ---- Promise 25

  private void newEarWeeks() {
    edge.of(25, "NEW EAR; -9. -4; -6 60.");
    weeks("newEar", MirrorsOnStrike::newEar);
    edge.ends("newEar, nobody there", Edge::nobody, MirrorsOnStrike::newEar, 0, -4, 60, -6);
  }

  private void newEarLessThanNow() {
    edge.of(25, "asking anew, make ERROR behind n WEEKS least, less than now");
    edge.is("behind no WEEK none helps", Check.told("p0050;b000;p0000;").newEar(0), -9);
    edge.is("behind one he helps", Check.told("p0050;b000;p0000;").newEar(1), 1);
    edge.is("all know", Edge.seven().newEar(60), -9);
    edge.is("less by one", Check.told("p0050;b048;p1100;").newEar(1), 1);
    edge.is("as much", Check.told("p0050;b049;p1100;").newEar(1), -9);
    edge.is("more", Check.told("p0050;b049;p1200;").newEar(1), -9);
    edge.is("less than as he asks now", Check.told("p0050;p1900;p0000;a01;").newEar(1), 2);
    edge.is("as much as he asks now", Check.told("p0050;b000;p0000;p0000;a01;").newEar(1), -9);
  }

  private void newEarNone() {
    edge.of(25, "of several the least; -9");
    edge.is("nobody there", Edge.nobody().newEar(60), -9);
    edge.is("one there", Check.told("p0000;b099;").newEar(60), -9);
    edge.is("all ask all", Check.told("p1950;p1950;a01;a10;").newEar(60), -9);
  }

  private void newEarOfSeveral() {
    edge.of(25, "NEW EAR: the two (10 who asks and whom)");
    edge.is("the first two", Check.told("p0000;p0000;p0000;b009;").newEar(1), 1);
    edge.is("whom of several", Check.told("p0000;p0000;p0000;b209;").newEar(1), 20);
    edge.is("who of several", Check.told("p0000;p0000;b009;b109;").newEar(1), 1);
    edge.is("the more of both", Check.told("p0000;p0000;b008;b109;").newEar(1), 10);
    MirrorsOnStrike last = Check.told("p5000;p5000;p5000;p5000;p5000;p0000;p0000;b699;");
    edge.is("the last two", last.newEar(1), 65);
    edge.is("the last two, behind 60", last.newEar(60), 65);
  }

  // ---- Promise 26

  private void sistersWho() {
    edge.of(26, "-1 either (one twice)");
    edge.ends("sisters(.., 0, 3, 0)", Edge::rich, (x, one) -> x.sisters(one, 0, 3, 0), 1, -1, 4, -1);
    edge.ends("sisters(0, .., 3, 1)", Edge::rich, (x, other) -> x.sisters(0, other, 3, 1), 1, -1, 4, -1);
    edge.ends("sisters(.., 6, 3, 1)", Edge::seven, (x, one) -> x.sisters(one, 6, 3, 1), 0, -1, 5, -1);
    edge.refused("sisters(-1, 0, 3, 0)", Edge::rich, x -> x.sisters(-1, 0, 3, 0), -1);
    edge.refused("sisters(0, -1, 3, 0)", Edge::rich, x -> x.sisters(0, -1, 3, 0), -1);
    edge.refused("sisters(0, 1, 0, 0), one there", Edge::alone, x -> x.sisters(0, 1, 0, 0), -1);
    edge.refused("sisters(3, 3, 0, 0)", Edge::rich, x -> x.sisters(3, 3, 0, 0), -1);
  }

  private void sistersWeeks() {
    edge.of(26, "-4; -6 60; -2.");
    edge.ends("sisters(0, 1, .., 0)", Edge::rich, (x, n) -> x.sisters(0, 1, n, 0), 0, -4, 60, -6);
    edge.ends("sisters(4, 0, .., 1)", Edge::rich, (x, n) -> x.sisters(4, 0, n, 1), 0, -4, 60, -6);
  }

  private void sistersWhat() {
    edge.of(26, "SISTERS: how far (what 0), the greatest (1)");
    edge.ends("sisters(0, 1, 3, ..)", Edge::rich, (x, what) -> x.sisters(0, 1, 3, what), 0, -2, 1, -2);
  }

  private void sistersSeveral() {
    edge.of(26, "the first that fits in the order in which it tells them");
    edge.refused("sisters(5, 0, -1, 2)", Edge::rich, x -> x.sisters(5, 0, -1, 2), -1);
    edge.refused("sisters(2, 2, 61, 2)", Edge::rich, x -> x.sisters(2, 2, 61, 2), -1);
    edge.refused("sisters(0, 1, -1, 2)", Edge::rich, x -> x.sisters(0, 1, -1, 2), -4);
    edge.refused("sisters(0, 1, 61, -1)", Edge::rich, x -> x.sisters(0, 1, 61, -1), -6);
  }

  private void sistersGreatest() {
    edge.of(26, "how far apart their BELIEFS are behind n WEEKS; the greatest of that behind 0 .. n");
    MirrorsOnStrike first = Check.told("p0010;b000;p0010;b199;");
    edge.is("now", first.sisters(0, 1, 0, 0), 99);
    edge.is("greatest, now alone", first.sisters(0, 1, 0, 1), 99);
    edge.is("behind 1", first.sisters(0, 1, 1, 0), 0);
    edge.is("greatest was now", first.sisters(1, 0, 60, 1), 99);
    MirrorsOnStrike last = Check.told("p0010;b050;p0090;b150;");
    edge.is("now", last.sisters(0, 1, 0, 1), 0);
    edge.is("greatest is the last", last.sisters(0, 1, 1, 1), 80);
    edge.is("the last", last.sisters(0, 1, 60, 0), 80);
    for (int n = 0; n <= 60; n++) {
      edge.is("both fall: sisters(0, 1, " + n + ", 0)", fall().sisters(0, 1, n, 0), n % 2 * 2);
      edge.is("both fall: sisters(1, 0, " + n + ", 1)", fall().sisters(1, 0, n, 1), n == 0 ? 0 : 2);
    }
  }

  private void sistersOthers() {
    edge.of(26, "two who ASK each other alone from now (all others as they do)");
    MirrorsOnStrike x = Check.told("p4010;p4020;p4090;a02;a20;a12;");
    edge.is("alone", x.sisters(0, 1, 60, 0), 10);
    edge.is("with one who is asked by the third", x.sisters(1, 2, 1, 0), 70);
    edge.is("ASKS of 0 still", x.person(0, 4), 4);
    edge.is("ASKS of 1 still", x.person(1, 4), 4);
    edge.is("two who asked nobody", Check.told("p0010;p0020;b099;").sisters(0, 1, 1, 0), 10);
  }

  // ---- Promise 40

  private void humbleWeeks() {
    edge.of(40, "HUMBLE; -9. -4; -6 60.");
    weeks("humble", MirrorsOnStrike::humble);
    edge.ends("humble, nobody there", Edge::nobody, MirrorsOnStrike::humble, 0, -4, 60, -6);
  }

  private void humbleLessThanNow() {
    edge.of(40, "the one whose FIGURE, being 0, makes ERROR behind n WEEKS least, less than now");
    edge.is("nobody there", Edge.nobody().humble(60), -9);
    edge.is("one there", Check.told("p1900;b099;").humble(60), -9);
    edge.is("behind no WEEK", Check.told("p0050;p1100;a01;").humble(0), -9);
    edge.is("less by one", Check.told("p0050;p1100;a01;").humble(1), 1);
    edge.is("less than it would be", Check.told("p0050;p1900;p1800;a01;a02;").humble(1), 1);
    edge.is("0 already", Check.told("p0050;b000;p1000;a01;").humble(1), -9);
    edge.is("nobody asks him", Check.told("p0050;p1900;").humble(60), -9);
    edge.is("as much", Check.told("p0050;p4151;a01;").humble(1), -9);
    edge.is("more", Check.told("p0050;p4152;a01;").humble(1), -9);
    edge.is("cut, as much", Check.told("p0050;p1100;p0000;a01;a02;").humble(1), -9);
  }

  private void humbleOfSeveral() {
    edge.of(40, "of several the least; -9");
    edge.is("as good", Check.told("p0050;p1900;p1900;a01;a02;p0050;a31;a32;").humble(1), 1);
    edge.is("the better one", Check.told("p0050;p1800;p1900;p0050;a01;a32;").humble(1), 2);
    edge.is("the last", Check.told("p0050;p0000;p0000;p0000;p0000;p0000;p1900;a06;").humble(60), 6);
    edge.is("the first", Check.told("p1900;p0050;a10;").humble(60), 0);
  }

  // ---- Promise 42

  private void spreadWeeks() {
    edge.of(42, "SPREAD (0 nobody). -4; -6 60.");
    weeks("spread", MirrorsOnStrike::spread);
    edge.ends("spread, nobody there", Edge::nobody, MirrorsOnStrike::spread, 0, -4, 60, -6);
  }

  private void spreadFewAndMany() {
    edge.of(42, "SPREAD (0 nobody)");
    edge.is("nobody there", Edge.nobody().spread(0), 0);
    edge.is("nobody there, behind 60", Edge.nobody().spread(60), 0);
    edge.is("one there", Check.told("p0000;b099;").spread(60), 0);
    edge.is("the most", Check.told("p0000;p0099;").spread(60), 99);
    edge.is("the most, the first above", Check.told("p0099;p0000;").spread(0), 99);
    edge.is("all seven", Edge.seven().spread(60), 79);
    edge.is("as much", Check.told("p0050;p0050;p0050;").spread(0), 0);
    for (int n = 0; n <= 60; n++) {
      edge.is("both fall: spread(" + n + ")", fall().spread(n), n % 2 * 2);
    }
  }

  // ---- Promise 44

  private void calmBy() {
    edge.of(44, "FALSE CALM; -9. -4; -6 99.");
    edge.ends("calm", Edge::rich, MirrorsOnStrike::calm, 0, -4, 99, -6);
    edge.ends("calm, nobody there", Edge::nobody, MirrorsOnStrike::calm, 0, -4, 99, -6);
  }

  private void calmMoreThan() {
    edge.of(44, "nobody's BELIEF changes by more than d in the next WEEK, though somebody is FOOLED by more than d");
    edge.is("fooled by 1, nothing changes", apart(1).calm(0), 0);
    edge.is("fooled by just d", apart(1).calm(1), -9);
    edge.is("fooled by 99", apart(99).calm(98), 0);
    edge.is("by just 99", apart(99).calm(99), -9);
    MirrorsOnStrike down = Check.told("p0050;b060;p1950;b150;a01;p0000;b299;");
    edge.is("changes by just d, down", down.calm(1), 0);
    edge.is("changes by more than 0, down", down.calm(0), 1);
    MirrorsOnStrike up = Check.told("p0050;b058;p1950;a01;p0000;b299;");
    edge.is("changes by just d, up", up.calm(1), 0);
    edge.is("changes by more than 0, up", up.calm(0), 1);
  }

  private void calmLeast() {
    edge.of(44, "FALSE CALM: the least n (0 .. 60) behind which");
    edge.is("behind 3", fall().calm(2), 3);
    edge.is("behind 58", Check.told(LATE).calm(57), 58);
    edge.is("behind 60", Check.told(LATE).calm(59), 60);
    edge.is("behind 62", Check.told(LATE).calm(60), -9);
  }

  private void calmNone() {
    edge.of(44, "FALSE CALM; -9");
    edge.is("nobody there", Edge.nobody().calm(0), -9);
    edge.is("one there who knows", Edge.alone().calm(0), -9);
    edge.is("one there who does not", Check.told("p0050;b051;").calm(0), 0);
    edge.is("all know", Edge.seven().calm(0), -9);
    edge.is("goes on and on", Check.told("p4010;p4020;a01;a10;").calm(9), -9);
    edge.is("goes on and on, by d", Check.told("p4010;p4020;a01;a10;p0000;b299;").calm(10), 0);
  }

  // ---- Promise 49

  private void wantedWho() {
    edge.of(49, "WANTED; -9. -1");
    edge.ends("wanted(.., 50)", Edge::rich, (x, one) -> x.wanted(one, 50), 0, -1, 4, -1);
    edge.ends("wanted(.., 50), seven there", Edge::seven, (x, one) -> x.wanted(one, 50), 0, -1, 6, -1);
    edge.refused("wanted(0, 0), nobody there", Edge::nobody, x -> x.wanted(0, 0), -1);
  }

  private void wantedValues() {
    edge.of(49, "-1; -4; -6 99.");
    edge.ends("wanted(0, ..)", Edge::rich, (x, v) -> x.wanted(0, v), 0, -4, 99, -6);
  }

  private void wantedSeveral() {
    edge.of(49, "the first that fits in the order in which it tells them");
    edge.refused("wanted(5, -1)", Edge::rich, x -> x.wanted(5, -1), -1);
    edge.refused("wanted(-1, 100)", Edge::rich, x -> x.wanted(-1, 100), -1);
  }

  private void wantedLeast() {
    edge.of(49, "WANTED: the least n (0 .. 60) behind which one BELIEVES v or more; -9");
    edge.is("0 is so now", Check.told("p0000;").wanted(0, 0), 0);
    edge.is("just so", Edge.alone().wanted(0, 50), 0);
    edge.is("never", Edge.alone().wanted(0, 51), -9);
    edge.is("99", Check.told("p0099;").wanted(0, 99), 0);
    edge.is("behind 1", Check.told("p0050;b000;p0000;a01;").wanted(0, 50), 1);
    edge.is("not by more", Check.told("p0050;b000;p0000;a01;").wanted(0, 51), -9);
    MirrorsOnStrike slow = Check.told("p4185;p4061;p4028;p3021;p4088;", "a01;a03;a04;a12;a14;a20;a21;a31;a32;a42;",
        "b000;b102;b200;b303;b400;");
    edge.is("behind 60", slow.wanted(1, 53), 60);
    edge.is("behind more than 60", slow.wanted(1, 54), -9);
  }

  // ---- Promise 54

  private void changedWho() {
    edge.of(54, "CHANGED. -1");
    edge.ends("changed(.., 3, 5)", Edge::rich, (x, one) -> x.changed(one, 3, 5), 0, -1, 4, -1);
    edge.ends("changed(.., 3, 5), seven there", Edge::seven, (x, one) -> x.changed(one, 3, 5), 0, -1, 6, -1);
    edge.refused("changed(0, 0, 0), nobody there", Edge::nobody, x -> x.changed(0, 0, 0), -1);
  }

  private void changedWeeks() {
    edge.of(54, "-1; -4 either; -6 (60; 9).");
    weeks("changed(0, .., 5)", (x, n) -> x.changed(0, n, 5));
  }

  private void changedFigures() {
    edge.of(54, "-4 either; -6 (60; 9).");
    edge.ends("changed(1, 3, ..)", Edge::rich, (x, v) -> x.changed(1, 3, v), 0, -4, 9, -6);
  }

  private void changedSeveral() {
    edge.of(54, "the first that fits in the order in which it tells them");
    edge.refused("changed(5, -1, 10)", Edge::rich, x -> x.changed(5, -1, 10), -1);
    edge.refused("changed(-1, 61, 10)", Edge::rich, x -> x.changed(-1, 61, 10), -1);
    edge.refused("changed(0, -1, 10)", Edge::rich, x -> x.changed(0, -1, 10), -4);
    edge.refused("changed(0, 61, -1)", Edge::rich, x -> x.changed(0, 61, -1), -4);
    edge.refused("changed(0, 61, 10)", Edge::rich, x -> x.changed(0, 61, 10), -6);
  }

  private void changedFewAndMany() {
    edge.of(54, "CHANGED: how many of all PEOPLE would BELIEVE otherwise behind n WEEKS, were one's FIGURE v.");
    edge.is("one there", Check.told("p1050;").changed(0, 60, 9), 0);
    MirrorsOnStrike x = Check.told("p1550;p0050;p0050;p0050;p0050;p0050;p0050;", "a10;a20;a30;a40;a50;a60;");
    edge.is("all others", x.changed(0, 1, 6), 6);
    edge.is("all others, 0", x.changed(0, 60, 0), 6);
    edge.is("all others, 9", x.changed(0, 60, 9), 6);
    edge.is("as it is", x.changed(0, 60, 5), 0);
    edge.is("now", x.changed(0, 0, 9), 0);
    edge.is("one whom nobody asks", x.changed(6, 60, 9), 0);
    MirrorsOnStrike all = Check.told("p4199;p4099;p4099;p4099;p4099;p4099;p4099;", "a01;a12;a23;a34;a45;a56;a60;");
    for (int n = 0; n <= 8; n++) {
      edge.is("round by round, " + n, all.changed(0, n, 0), Math.min(7, n));
    }
    edge.is("FIGURE still", all.person(0, 1), 1);
  }
}
