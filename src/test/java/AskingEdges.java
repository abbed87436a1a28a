/** Promises 21 to 23, 27, 31, 38, 39, 41, 43, 45 to 48 and 50 at their edges: whom to ask, and who asks whom. */
final class AskingEdges {
  /** Of 0 the LOOK is 50: 1 to 5 say 53, 6 says 36; the mean of all six alone is 50, cut. */
  private static final String ALL_SIX = "p0050;b040;p1300;p1300;p1300;p1300;p1300;p2700;";
  private static final String RING = "a01;a12;a23;a34;a45;a56;a60;";
  private static final String TWO = "p0050;p0040;";
  private final Edge edge;

  AskingEdges(Edge edge) {
    this.edge = edge;
  }

  void all() {
    knowsWho();
    knowsNow();
    knowsNone();
    knowsFewest();
    nearestWho();
    nearestWhat();
    nearestSeveral();
    nearestAlone();
    nearestFewest();
    fairWho();
    fairHowMany();
    fairHowFar();
    fairSeveral();
    fairJustSoMany();
    fairNoFarther();
    cheatWho();
    cheatValues();
    cheatWhat();
    cheatAsksNobody();
    cheatSeveral();
    cheatLooks();
    barberWho();
    barberValues();
    barberAsksNobody();
    barberSeveral();
    barberPrices();
    barberNone();
    echoWho();
    echoHimself();
    echoFewAndMany();
    loopsWhat();
    loopsFewAndMany();
    highestWho();
    highestWhat();
    highestSeveral();
    highestAlone();
    highestOneAtLeast();
    pairsNone();
    pairsOfSeveral();
    honestWhat();
    honestFewerThanTwo();
    honestOfSeveral();
    chainWho();
    chainOneTwice();
    chainFewAndMany();
    cliqueFewAndMany();
    cliqueOfSeveral();
    cutWho();
    cutOneTwice();
    cutAsksHimHimself();
    cutFewAndMany();
    panelWho();
    panelHowMany();
    panelSeveral();
    panelNotSoMany();
    panelOfSeveral();
  }

  /** One person each, beyond either end. */
  private void who(String what, Edge.Call call) {
    edge.ends(what, Edge::rich, call, 0, -1, 4, -1);
    edge.ends(what + ", seven there", () -> Check.told(Edge.SEVEN, RING), call, 0, -1, 6, -1);
    edge.refused(what + ", 0, nobody there", Edge::nobody, x -> call.on(x, 0), -1);
    edge.refused(what + ", 1, one there", Edge::alone, x -> call.on(x, 1), -1);
  }

  /** Two, each beyond either end, and one twice. */
  private void two(String what, Edge.Call withZero, Edge.Call zeroWith) {
    edge.ends(what + ", the first", Edge::rich, withZero, 1, -1, 4, -1);
    edge.ends(what + ", the second", Edge::rich, zeroWith, 1, -1, 4, -1);
    edge.ends(what + ", the first, seven there", Edge::seven, withZero, 1, -1, 6, -1);
    edge.ends(what + ", the second, seven there", Edge::seven, zeroWith, 1, -1, 6, -1);
    edge.refused(what + ", -1 and 0", Edge::rich, x -> withZero.on(x, -1), -1);
    edge.refused(what + ", 0 and -1", Edge::rich, x -> zeroWith.on(x, -1), -1);
    edge.refused(what + ", 0 and 1, one there", Edge::alone, x -> zeroWith.on(x, 1), -1);
    edge.refused(what + ", 1 and 0, one there", Edge::alone, x -> withZero.on(x, 1), -1);
    edge.refused(what + ", 0 twice, nobody there", Edge::nobody, x -> zeroWith.on(x, 0), -1);
  }

  private void twice(String what, Edge.Call call) {
    for (int one = 0; one < 7; one++) {
      int who = one;
      edge.refused(what + ", " + who + " twice", Edge::seven, x -> call.on(x, who), -1);
    }
  }

  // ---- Promise 21

  private void knowsWho() {
    edge.of(21, "KNOWS (bits; -9). -1.");
    who("knows", MirrorsOnStrike::knows);
  }

  private void knowsNow() {
    edge.of(21, "none, if his BELIEF is his LOOK now");
    edge.is("one there", Edge.alone().knows(0), 0);
    edge.is("all know", Edge.seven().knows(6), 0);
    edge.is("he asks a liar", Check.told("p0050;p5900;a01;").knows(0), 0);
    edge.is("one more", Check.told("p0050;b051;p0000;").knows(0), 2);
    edge.is("one less", Check.told("p0050;b049;p0000;").knows(0), 2);
  }

  private void knowsNone() {
    edge.of(21, "so that behind a WEEK his BELIEF is his LOOK; -9");
    edge.is("one there", Check.told("p0050;b051;").knows(0), -9);
    edge.is("nobody says so", Check.told("p0050;b051;p1100;p1200;").knows(0), -9);
    edge.is("one says 1 too few", Check.told("p0050;b040;p4049;").knows(0), -9);
  }

  private void knowsFewest() {
    edge.of(21, "KNOWS: the fewest of the others (bits, of several the least");
    edge.is("all six", Check.told(ALL_SIX).knows(0), 126);
    edge.is("one of several", Check.told("p0050;b040;p1100;p0000;p0000;").knows(0), 4);
    edge.is("one ahead of two", Check.told("p0050;b040;p1400;p2200;p0000;").knows(0), 8);
    edge.is("two of several", Check.told("p0050;b040;p1400;p2200;p2200;").knows(0), 6);
    edge.is("the last knows by the first", Check.told("p0000;p0000;p0050;b249;").knows(2), 1);
  }

  // ---- Promise 22

  private void nearestWho() {
    edge.of(22, "NEAREST: the set (what 0, one of the others at least; -9 he is alone), how near (1; -9). -1; -2.");
    who("nearest, 0", (x, one) -> x.nearest(one, 0));
    who("nearest, 1", (x, one) -> x.nearest(one, 1));
  }

  private void nearestWhat() {
    edge.of(22, "-1; -2.");
    edge.ends("nearest(4, ..)", Edge::rich, (x, what) -> x.nearest(4, what), 0, -2, 1, -2);
    edge.ends("nearest(0, ..), one there", Edge::alone, (x, what) -> x.nearest(0, what), 0, -2, 1, -2);
  }

  private void nearestSeveral() {
    edge.of(22, "the first that fits in the order in which it tells them");
    edge.refused("nearest(5, 2)", Edge::rich, x -> x.nearest(5, 2), -1);
    edge.refused("nearest(-1, -1)", Edge::rich, x -> x.nearest(-1, -1), -1);
  }

  private void nearestAlone() {
    edge.of(22, "-9 he is alone");
    for (int belief : new int[] {50, 99}) {
      MirrorsOnStrike x = Edge.alone();
      x.believes(0, belief);
      edge.is("nearest(0, 0)", x.nearest(0, 0), -9);
      edge.is("nearest(0, 1)", x.nearest(0, 1), -9);
    }
    edge.is("two there, he knows", Check.told("p0050;p5900;").nearest(0, 0), 2);
    edge.is("two there, he knows: how near", Check.told("p0050;p5900;").nearest(0, 1), 1);
  }

  private void nearestFewest() {
    edge.of(22, "NEAREST: the set by which it is nearest to it, of several with the fewest, then the least bits; how near");
    edge.is("all six", Check.told(ALL_SIX).nearest(0, 0), 126);
    edge.is("all six: how near", Check.told(ALL_SIX).nearest(0, 1), 0);
    edge.is("by 99", Check.told("p0000;p5000;").nearest(0, 1), 99);
    edge.is("by 0", Check.told("p0000;p0000;").nearest(0, 1), 0);
    edge.is("2 above and 2 below", Check.told("p0050;p1200;p2100;").nearest(0, 0), 6);
    edge.is("1 above and 1 below", Check.told("p0050;p1100;p4049;p1100;").nearest(0, 0), 6);
    edge.is("1 below, and 9 above", Check.told("p0050;p4049;p1900;").nearest(0, 0), 2);
    edge.is("fewest ahead of least", Check.told("p0050;p1400;p2200;p0000;").nearest(0, 0), 8);
    edge.is("the least", Check.told("p0050;p0000;p0000;p0000;").nearest(3, 0), 1);
  }

  // ---- Promise 23

  private void fairWho() {
    edge.of(23, "FAIR. -1");
    who("fair, 1, 0", (x, one) -> x.fair(one, 1, 0));
  }

  private void fairHowMany() {
    edge.of(23, "-4 (k below 1, d below 0); -6 (6; 99)");
    edge.ends("fair(0, .., 5)", Edge::rich, (x, k) -> x.fair(0, k, 5), 1, -4, 6, -6);
    edge.ends("fair(0, .., 99), one there", Edge::alone, (x, k) -> x.fair(0, k, 99), 1, -4, 6, -6);
  }

  private void fairHowFar() {
    edge.of(23, "-6 (6; 99).");
    edge.ends("fair(0, 2, ..)", Edge::rich, (x, d) -> x.fair(0, 2, d), 0, -4, 99, -6);
  }

  private void fairSeveral() {
    edge.of(23, "the first that fits in the order in which it tells them");
    edge.refused("fair(5, 0, 100)", Edge::rich, x -> x.fair(5, 0, 100), -1);
    edge.refused("fair(-1, 7, -1)", Edge::rich, x -> x.fair(-1, 7, -1), -1);
    edge.refused("fair(0, 0, 100)", Edge::rich, x -> x.fair(0, 0, 100), -4);
    edge.refused("fair(0, 7, -1)", Edge::rich, x -> x.fair(0, 7, -1), -4);
    edge.refused("fair(0, 7, 100)", Edge::rich, x -> x.fair(0, 7, 100), -6);
  }

  private void fairJustSoMany() {
    edge.of(23, "FAIR: of all sets of just k (1 .. 6) whom one could ASK");
    int[] sets = {0, 6, 15, 20, 15, 6, 1};
    for (int k = 1; k <= 6; k++) {
      edge.is("fair(6, " + k + ", 99), seven there", Edge.seven().fair(6, k, 99), sets[k]);
      edge.is("fair(0, " + k + ", 99), one there", Edge.alone().fair(0, k, 99), 0);
      edge.is("fair(1, " + k + ", 99), two there", Check.told(TWO).fair(1, k, 99), k == 1 ? 1 : 0);
    }
  }

  private void fairNoFarther() {
    edge.of(23, "how many bring his BELIEF no farther than d from his LOOK");
    edge.is("all six, 0", Check.told(ALL_SIX).fair(0, 6, 0), 1);
    edge.is("five, 0", Check.told(ALL_SIX).fair(0, 5, 0), 0);
    edge.is("five, 1", Check.told(ALL_SIX).fair(0, 5, 1), 5);
    edge.is("one, 2", Check.told(ALL_SIX).fair(0, 1, 2), 0);
    edge.is("one, 3", Check.told(ALL_SIX).fair(0, 1, 3), 5);
    edge.is("one, 13", Check.told(ALL_SIX).fair(0, 1, 13), 5);
    edge.is("one, 14", Check.told(ALL_SIX).fair(0, 1, 14), 6);
    edge.is("by 99, 98", Check.told("p0000;p5000;").fair(0, 1, 98), 0);
    edge.is("by 99, 99", Check.told("p0000;p5000;").fair(0, 1, 99), 1);
  }

  // ---- Promise 27

  private void cheatWho() {
    edge.of(27, "-1; -4; -6 99; -2; -3 he asks nobody.");
    edge.ends("cheat(.., 50, 0)", () -> Check.told(Edge.SEVEN, RING), (x, one) -> x.cheat(one, 50, 0), 0, -1, 6, -1);
    edge.ends("cheat(.., 50, 1)", () -> Check.told(TWO, "a01;a10;"), (x, one) -> x.cheat(one, 50, 1), 0, -1, 1, -1);
    edge.refused("cheat(0, 0, 0), nobody there", Edge::nobody, x -> x.cheat(0, 0, 0), -1);
  }

  private void cheatValues() {
    edge.of(27, "-4; -6 99; -2");
    edge.ends("cheat(0, .., 0)", Edge::rich, (x, v) -> x.cheat(0, v, 0), 0, -4, 99, -6);
  }

  private void cheatWhat() {
    edge.of(27, "CHEAT: how many LOOKS (what 0), the least (1; -9)");
    edge.ends("cheat(0, 50, ..)", Edge::rich, (x, what) -> x.cheat(0, 50, what), 0, -2, 1, -2);
  }

  private void cheatAsksNobody() {
    edge.of(27, "-3 he asks nobody");
    edge.refused("cheat(3, 50, 0)", Edge::rich, x -> x.cheat(3, 50, 0), -3);
    edge.refused("cheat(0, 50, 1), one there", Edge::alone, x -> x.cheat(0, 50, 1), -3);
    edge.refused("cheat(1, 40, 0), who is asked", () -> Check.told(TWO, "a01;"), x -> x.cheat(1, 40, 0), -3);
    edge.refused("cheat(0, 40, 0), who asks no more", () -> Check.told(TWO, "a01;a01;"), x -> x.cheat(0, 40, 0), -3);
    edge.taken("cheat(0, 40, 0), who asks", () -> Check.told(TWO, "a01;"), x -> x.cheat(0, 40, 0));
  }

  private void cheatSeveral() {
    edge.of(27, "the first that fits in the order in which it tells them");
    edge.refused("cheat(5, -1, 2)", Edge::rich, x -> x.cheat(5, -1, 2), -1);
    edge.refused("cheat(3, -1, 2)", Edge::rich, x -> x.cheat(3, -1, 2), -4);
    edge.refused("cheat(3, 100, 2)", Edge::rich, x -> x.cheat(3, 100, 2), -6);
    edge.refused("cheat(3, 50, 2)", Edge::rich, x -> x.cheat(3, 50, 2), -2);
    edge.refused("cheat(3, 50, -1)", Edge::rich, x -> x.cheat(3, 50, -1), -2);
    edge.refused("cheat(3, -1, 0)", Edge::rich, x -> x.cheat(3, -1, 0), -4);
  }

  /** One asks another one alone: how many LOOKS lead to v, and the least of them. */
  private void cheats(String asked, int v, int many, int least) {
    MirrorsOnStrike x = Check.told("p0050;" + asked + "a01;");
    edge.is(asked + " cheat(0, " + v + ", 0)", x.cheat(0, v, 0), many);
    edge.is(asked + " cheat(0, " + v + ", 1)", x.cheat(0, v, 1), least);
  }

  private void cheatLooks() {
    edge.of(27, "CHEAT: the LOOK v (0 .. 99) that one would have to have so that his BELIEF behind a WEEK were as told");
    cheats("p0000;", 0, 1, 0);
    cheats("p0000;", 99, 1, 99);
    cheats("p1900;", 8, 0, -9);
    cheats("p1900;", 9, 1, 0);
    cheats("p1900;", 98, 1, 89);
    cheats("p1900;", 99, 10, 90);
    cheats("p2900;", 0, 19, 0);
    cheats("p2900;", 1, 1, 19);
    cheats("p2900;", 81, 1, 99);
    cheats("p2900;", 82, 0, -9);
    cheats("p4050;", 50, 100, 0);
    cheats("p4050;", 49, 0, -9);
    cheats("p4050;", 51, 0, -9);
    cheats("p5000;", 0, 1, 99);
    cheats("p5000;", 99, 1, 0);
    cheats("p3000;", 0, 2, 0);
    cheats("p3000;", 49, 2, 98);
    cheats("p3000;", 50, 0, -9);
  }

  // ---- Promise 31

  private void barberWho() {
    edge.of(31, "BARBER; -9. -1; -4; -6 99; -3 he asks nobody.");
    edge.ends("barber(.., 50)", () -> Check.told(Edge.SEVEN, RING), (x, one) -> x.barber(one, 50), 0, -1, 6, -1);
    edge.ends("barber(.., 50), two there", () -> Check.told(TWO, "a01;a10;"), (x, one) -> x.barber(one, 50), 0, -1, 1, -1);
    edge.refused("barber(0, 0), nobody there", Edge::nobody, x -> x.barber(0, 0), -1);
  }

  private void barberValues() {
    edge.of(31, "-4; -6 99; -3");
    edge.ends("barber(0, ..)", Edge::rich, (x, v) -> x.barber(0, v), 0, -4, 99, -6);
  }

  private void barberAsksNobody() {
    edge.of(31, "-3 he asks nobody");
    edge.refused("barber(3, 60)", Edge::rich, x -> x.barber(3, 60), -3);
    edge.refused("barber(0, 0), one there", Edge::alone, x -> x.barber(0, 0), -3);
    edge.refused("barber(1, 40), who is asked", () -> Check.told(TWO, "a01;"), x -> x.barber(1, 40), -3);
    edge.refused("barber(0, 40), who asks no more", () -> Check.told(TWO, "a01;a01;"), x -> x.barber(0, 40), -3);
  }

  private void barberSeveral() {
    edge.of(31, "the first that fits in the order in which it tells them");
    edge.refused("barber(5, -1)", Edge::rich, x -> x.barber(5, -1), -1);
    edge.refused("barber(-1, 100)", Edge::rich, x -> x.barber(-1, 100), -1);
    edge.refused("barber(3, -1)", Edge::rich, x -> x.barber(3, -1), -4);
    edge.refused("barber(3, 100)", Edge::rich, x -> x.barber(3, 100), -6);
  }

  private void barber(String people, int v, int due) {
    edge.is(people + " barber(0, " + v + ")", Check.told(people, "a01;").barber(0, v), due);
  }

  private void barberPrices() {
    edge.of(31, "BARBER: LOOKS can be made higher or lower by 1 at a price of 1 each: the least price for one");
    barber("p0000;p0000;", 0, 0);
    barber("p0000;p0000;", 1, 1);
    barber("p0000;p0000;", 99, 99);
    barber("p0099;p0000;", 99, 0);
    barber("p0098;p0000;", 99, 1);
    barber("p0099;p5000;", 99, 99);
    barber("p0099;p5000;", 1, 1);
    barber("p0099;p5000;", 0, 0);
    barber("p0000;p1900;", 99, 90);
    barber("p0090;p1900;", 99, 0);
    barber("p0089;p1900;", 99, 1);
    barber("p0099;b000;p0000;", 99, 0);
  }

  private void barberNone() {
    edge.of(31, "so that behind a WEEK his BELIEF is v or more (his LOOK alone changed); -9");
    barber("p0050;p4050;", 50, 0);
    barber("p0050;p4050;", 51, -9);
    barber("p0050;p2900;", 81, 49);
    barber("p0050;p2900;", 82, -9);
    barber("p0050;p3000;", 49, 48);
    barber("p0050;p3000;", 50, -9);
    barber("p0050;b099;p4000;", 1, -9);
  }

  // ---- Promise 38

  private void echoWho() {
    edge.of(38, "ECHO (bits). -1.");
    who("echo", MirrorsOnStrike::echo);
  }

  private void echoHimself() {
    edge.of(38, "himself only if he is asked so");
    MirrorsOnStrike x = Check.told(Edge.SEVEN, "a01;a12;");
    edge.is("he asks on and on, nobody him", x.echo(0), 6);
    Check.tell(x, "a20;");
    edge.is("the last asks him", x.echo(0), 7);
    edge.is("two who ask each other", Check.told(TWO, "a01;a10;").echo(1), 3);
    edge.is("one asks him, he nobody", Check.told(TWO, "a01;").echo(1), 0);
  }

  private void echoFewAndMany() {
    edge.of(38, "ECHO: from whom, by asking on and on (whom he asks, whom these ask, ..");
    edge.is("one there", Edge.alone().echo(0), 0);
    edge.is("asks nobody", Edge.seven().echo(6), 0);
    edge.is("two there", Check.told(TWO, "a10;").echo(1), 1);
    MirrorsOnStrike ring = Check.told(Edge.SEVEN, RING);
    MirrorsOnStrike chain = Check.told(Edge.SEVEN, "a65;a54;a43;a32;a21;a10;");
    for (int one = 0; one < 7; one++) {
      edge.is("a ring", ring.echo(one), 127);
      edge.is("a chain", chain.echo(one), (1 << one) - 1);
    }
  }

  // ---- Promise 39

  private void loopsWhat() {
    edge.of(39, "LOOPS (what 0), DEAF (1), UNHEARD (2), bits. -2.");
    edge.ends("loops", Edge::rich, MirrorsOnStrike::loops, 0, -2, 2, -2);
    edge.ends("loops, nobody there", Edge::nobody, MirrorsOnStrike::loops, 0, -2, 2, -2);
  }

  private void loops(String what, MirrorsOnStrike x, int loops, int deaf, int unheard) {
    edge.is(what + ": LOOPS", x.loops(0), loops);
    edge.is(what + ": DEAF", x.loops(1), deaf);
    edge.is(what + ": UNHEARD", x.loops(2), unheard);
  }

  private void loopsFewAndMany() {
    edge.of(39, "LOOPS: PEOPLE (bits) whose own word comes back to them so. DEAF: PEOPLE who ask nobody (bits); "
        + "UNHEARD: whom nobody asks (bits).");
    loops("nobody there", Edge.nobody(), 0, 0, 0);
    loops("one there", Edge.alone(), 0, 1, 1);
    loops("seven, none asks", Edge.seven(), 0, 127, 127);
    loops("a ring", Check.told(Edge.SEVEN, RING), 127, 0, 0);
    loops("a chain", Check.told(Edge.SEVEN, "a01;a12;a23;a34;a45;a56;"), 0, 64, 1);
    loops("two", Check.told(TWO, "a10;"), 0, 1, 2);
    loops("two of three", Check.told("p0000;p0000;p0000;", "a12;a21;a01;"), 6, 0, 1);
  }

  // ---- Promise 41

  private void highestWho() {
    edge.of(41, "HIGHEST (what 0; -9), LOWEST (1; -9). -1; -2.");
    who("highest, 0", (x, one) -> x.highest(one, 0));
    who("highest, 1", (x, one) -> x.highest(one, 1));
  }

  private void highestWhat() {
    edge.of(41, "-1; -2.");
    edge.ends("highest(4, ..)", Edge::rich, (x, what) -> x.highest(4, what), 0, -2, 1, -2);
    edge.ends("highest(0, ..), one there", Edge::alone, (x, what) -> x.highest(0, what), 0, -2, 1, -2);
  }

  private void highestSeveral() {
    edge.of(41, "the first that fits in the order in which it tells them");
    edge.refused("highest(5, 2)", Edge::rich, x -> x.highest(5, 2), -1);
    edge.refused("highest(-1, -1)", Edge::rich, x -> x.highest(-1, -1), -1);
  }

  private void highestAlone() {
    edge.of(41, "-9 he is alone");
    edge.is("highest(0, 0)", Edge.alone().highest(0, 0), -9);
    edge.is("highest(0, 1)", Edge.alone().highest(0, 1), -9);
    edge.is("two there", Check.told("p0000;p0000;").highest(1, 0), 0);
  }

  private void highestOneAtLeast() {
    edge.of(41, "HIGHEST: the most that one can BELIEVE behind a WEEK, whomever he ASKS (one at least); LOWEST likewise");
    MirrorsOnStrike x = Check.told("p0050;b099;p4040;p4060;p4050;");
    edge.is("not what he believes now", x.highest(0, 0), 60);
    x.believes(0, 0);
    edge.is("not what he believes now, lowest", x.highest(0, 1), 40);
    MirrorsOnStrike ends = Check.told("p0000;p5000;p0000;");
    edge.is("99", ends.highest(0, 0), 99);
    edge.is("0", ends.highest(0, 1), 0);
    edge.is("of one alone, highest", Check.told("p0050;p1900;").highest(0, 0), 59);
    edge.is("of one alone, lowest", Check.told("p0050;p1900;").highest(0, 1), 59);
    edge.is("of seven, highest", Edge.seven().highest(5, 0), 66);
    edge.is("of seven, lowest", Edge.seven().highest(5, 1), 10);
    edge.is("himself aside", Check.told("p1950;p0050;p0050;").highest(0, 0), 50);
  }

  // ---- Promise 43

  private void pairsNone() {
    edge.of(43, "PAIRS; -9.");
    edge.is("nobody there", Edge.nobody().pairs(), -9);
    edge.is("one there", Edge.alone().pairs(), -9);
    edge.is("none asks", Edge.seven().pairs(), -9);
    edge.is("one of two", Check.told(TWO, "a01;").pairs(), -9);
    edge.is("the other of two", Check.told(TWO, "a10;").pairs(), -9);
    edge.is("a ring", Check.told(Edge.SEVEN, RING).pairs(), -9);
  }

  private void pairsOfSeveral() {
    edge.of(43, "(10 the lesser and the other); of several the first");
    edge.is("not apart", Check.told("p0000;p0000;a01;a10;").pairs(), 1);
    edge.is("99 apart", Check.told("p0000;p0099;a01;a10;").pairs(), 1);
    edge.is("the last two", Check.told(Edge.SEVEN, "a65;a56;").pairs(), 56);
    edge.is("as far", Check.told("p0010;p0020;p0010;p0020;", "a01;a10;a23;a32;").pairs(), 1);
    edge.is("as far, of one", Check.told("p0010;p0020;p0010;p0020;", "a12;a21;a23;a32;").pairs(), 12);
    edge.is("farther by 1", Check.told("p0010;p0020;p0010;p0021;", "a01;a10;a23;a32;").pairs(), 23);
    edge.is("not as far by 1", Check.told("p0010;p0020;p0011;p0020;", "a01;a10;a23;a32;").pairs(), 1);
    edge.is("by what they believe", Check.told("p0010;p0010;p0010;p0010;", "b399;a01;a10;a23;a32;").pairs(), 23);
  }

  // ---- Promise 45

  private void honestWhat() {
    edge.of(45, "HONEST: who (what 0; -9), that (1; -9). -2.");
    edge.ends("honest", Edge::rich, MirrorsOnStrike::honest, 0, -2, 1, -2);
    edge.ends("honest, nobody there", Edge::nobody, MirrorsOnStrike::honest, 0, -2, 1, -2);
  }

  private void honest(String what, MirrorsOnStrike x, int who, int far) {
    edge.is(what + ": honest(0)", x.honest(0), who);
    edge.is(what + ": honest(1)", x.honest(1), far);
  }

  private void honestFewerThanTwo() {
    edge.of(45, "-9 fewer than two");
    honest("nobody there", Edge.nobody(), -9, -9);
    honest("one there", Edge.alone(), -9, -9);
    honest("two there", Check.told("p5000;p5000;"), 0, 99);
  }

  private void honestOfSeveral() {
    edge.of(45, "of all others together how far what he SAYS of them is from their LOOKS, least, of several the least number");
    honest("as far", Check.told("p1300;p1300;p1300;"), 0, 6);
    honest("the last alone says what is so", Check.told("p1100;p1100;p1000;"), 2, 0);
    honest("the last is nearer by 1", Check.told("p1250;p1253;p4050;"), 2, 3);
    honest("both as near", Check.told("p5000;p1000;p2000;"), 1, 0);
    honest("all of seven", Check.told("p5000;p5000;p5000;p5000;p5000;p5000;p5000;"), 0, 594);
  }

  // ---- Promise 46

  private void chainWho() {
    edge.of(46, "CHAIN; -9. -1 either (one twice).");
    two("chain", (x, one) -> x.chain(one, 0), (x, other) -> x.chain(0, other));
  }

  private void chainOneTwice() {
    edge.of(46, "-1 either (one twice)");
    twice("chain", (x, one) -> x.chain(one, one));
  }

  private void chainFewAndMany() {
    edge.of(46, "CHAIN: from one to another the fewest ASKINGS one behind the other (he asks one who asks .. the other); -9");
    MirrorsOnStrike ring = Check.told(Edge.SEVEN, RING);
    for (int one = 0; one < 7; one++) {
      for (int other = 0; other < 7; other++) {
        if (one != other) {
          edge.is("chain(" + one + ", " + other + ")", ring.chain(one, other), (other - one + 7) % 7);
        }
      }
    }
    edge.is("none", Edge.seven().chain(0, 6), -9);
    edge.is("not the other way", Check.told(TWO, "a01;").chain(1, 0), -9);
    edge.is("the shorter one", Check.told(Edge.SEVEN, RING, "a06;").chain(0, 6), 1);
  }

  // ---- Promise 47

  private void cliqueFewAndMany() {
    edge.of(47, "one alone, if no two do; 0 nobody");
    edge.is("nobody there", Edge.nobody().clique(), 0);
    edge.is("one there", Edge.alone().clique(), 1);
    edge.is("two, none asks", Check.told(TWO).clique(), 1);
    edge.is("two, one asks", Check.told(TWO, "a01;").clique(), 1);
    edge.is("two, the other asks", Check.told(TWO, "a10;").clique(), 1);
    edge.is("two, both ask", Check.told(TWO, "a01;a10;").clique(), 3);
    edge.is("seven in a ring", Check.told(Edge.SEVEN, RING).clique(), 1);
    MirrorsOnStrike x = Edge.seven();
    for (int one = 0; one < 7; one++) {
      for (int other = 0; other < 7; other++) {
        x.asks(one, other);
      }
    }
    edge.is("all ask all", x.clique(), 127);
    x.asks(0, 6);
    edge.is("all but one", x.clique(), 63);
    x.asks(0, 1);
    edge.is("all but him", x.clique(), 126);
  }

  private void cliqueOfSeveral() {
    edge.of(47, "CLIQUE: the most PEOPLE who all ask each other (bits, of several the least");
    edge.is("the last two", Check.told(Edge.SEVEN, "a56;a65;").clique(), 96);
    edge.is("two twos", Check.told(Edge.SEVEN, "a56;a65;a01;a10;").clique(), 3);
    edge.is("two twos with one in both", Check.told(Edge.SEVEN, "a56;a65;a46;a64;").clique(), 80);
    edge.is("three ahead of two", Check.told(Edge.SEVEN, "a01;a10;a45;a54;a46;a64;a56;a65;").clique(), 112);
  }

  // ---- Promise 48

  private void cutWho() {
    edge.of(48, "CUT (bits; -9). -1 either (one twice).");
    two("cut", (x, one) -> x.cut(one, 0), (x, other) -> x.cut(0, other));
  }

  private void cutOneTwice() {
    edge.of(48, "-1 either (one twice)");
    twice("cut", (x, one) -> x.cut(one, one));
  }

  private void cutAsksHimHimself() {
    edge.of(48, "-9 he asks him himself");
    edge.is("two", Check.told(TWO, "a01;").cut(0, 1), -9);
    edge.is("the other way", Check.told(TWO, "a01;").cut(1, 0), 0);
    edge.is("by others too", Check.told(Edge.SEVEN, RING, "a06;").cut(0, 6), -9);
    edge.is("he is asked", Check.told(Edge.SEVEN, RING).cut(0, 6), 2);
  }

  private void cutFewAndMany() {
    edge.of(48, "CUT: the fewest PEOPLE (bits, neither of both; of several the least) without whom there is no CHAIN");
    edge.is("no CHAIN, two there", Check.told(TWO).cut(0, 1), 0);
    edge.is("no CHAIN, seven there", Edge.seven().cut(6, 0), 0);
    edge.is("a ring, each between: the least", Check.told(Edge.SEVEN, RING).cut(6, 5), 1);
    MirrorsOnStrike all = Check.told(Edge.SEVEN, "a01;a02;a03;a04;a05;a16;a26;a36;a46;a56;");
    edge.is("all five others", all.cut(0, 6), 62);
    edge.is("all five others, from the last", turned().cut(6, 0), 62);
    all.asks(0, 5);
    edge.is("four", all.cut(0, 6), 30);
    edge.is("fewest ahead of least", Check.told(Edge.SEVEN, "a01;a02;a15;a25;a56;").cut(0, 6), 32);
    edge.is("one beside the way", Check.told("p0000;p0000;p0000;", "a01;").cut(0, 2), 0);
  }

  private static MirrorsOnStrike turned() {
    return Check.told(Edge.SEVEN, "a61;a62;a63;a64;a65;a10;a20;a30;a40;a50;");
  }

  // ---- Promise 50

  private void panelWho() {
    edge.of(50, "PANEL (bits; -9). -1");
    who("panel, 1", (x, one) -> x.panel(one, 1));
  }

  private void panelHowMany() {
    edge.of(50, "-1; -4 below 1; -6 6.");
    edge.ends("panel(0, ..)", Edge::rich, (x, k) -> x.panel(0, k), 1, -4, 6, -6);
    edge.ends("panel(6, ..), seven there", Edge::seven, (x, k) -> x.panel(6, k), 1, -4, 6, -6);
  }

  private void panelSeveral() {
    edge.of(50, "the first that fits in the order in which it tells them");
    edge.refused("panel(5, 0)", Edge::rich, x -> x.panel(5, 0), -1);
    edge.refused("panel(-1, 7)", Edge::rich, x -> x.panel(-1, 7), -1);
  }

  private void panelNotSoMany() {
    edge.of(50, "-9 there are not so many");
    MirrorsOnStrike x = Edge.nobody();
    for (int there = 1; there <= 7; there++) {
      x.comes(0, 0, 50);
      for (int k = 1; k <= 6; k++) {
        int last = there - 1;
        edge.is("panel(" + last + ", " + k + ")", x.panel(last, k), k <= last ? (1 << k) - 1 : -9);
        edge.is("panel(0, " + k + ")", x.panel(0, k), k <= last ? (1 << k + 1) - 2 : -9);
      }
    }
  }

  private void panelOfSeveral() {
    edge.of(50, "PANEL: of all sets of just k others the one (bits, of several the least) by which one's BELIEF behind a WEEK "
        + "were greatest");
    edge.is("0 of all", Check.told("p0000;p0000;p0000;p0000;").panel(0, 2), 6);
    edge.is("99", Check.told("p0000;p0000;p0000;p5000;").panel(0, 1), 8);
    edge.is("cut, as much: the least", Check.told("p0050;p0000;p0000;p1100;").panel(0, 2), 6);
    edge.is("more by 1", Check.told("p0050;p0000;p0000;p1200;").panel(0, 2), 10);
    edge.is("himself aside", Check.told("p1950;p0050;p0050;").panel(0, 2), 6);
  }
}
