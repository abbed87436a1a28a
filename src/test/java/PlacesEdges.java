import java.util.function.Supplier;

/** Promises 9, 10, 32 to 37 and 51 to 53 at their edges: places, ways, what one sees there, and the bargain. */
final class PlacesEdges {
  private static final String GLASSES = "g03;g13;g23;g33;g43;g53;g63;g73;";
  private final Edge edge;

  PlacesEdges(Edge edge) {
    this.edge = edge;
  }

  void all() {
    wayWho();
    wayOneTwice();
    wayOrNone();
    allWays();
    hangsWhere();
    hangsWhat();
    hangsSeveral();
    hangsGlances();
    stepsWhere();
    stepsFewAndMany();
    glancesWhere();
    glancesWhat();
    glancesSeveral();
    glancesFirstAndLast();
    glancesNone();
    glancesStepsWithSoFew();
    unseenWhere();
    unseenOwnAside();
    unseenFewAndMany();
    unseenWhatHangs();
    coverWhere();
    coverFewerThanNow();
    coverOfSeveral();
    coverNoWay();
    bargainWeeks();
    bargainCosts();
    bargainSeveral();
    bargainLastWeek();
    bargainHoursAtLeast();
    strikeCosts();
    strikeOfSeveral();
    tourWhere();
    tourSets();
    tourSeveral();
    tourEmptyAndFull();
    tourNone();
    narrowsWhere();
    narrowsOneTwice();
    narrowsNeitherOfBoth();
    narrowsNoWay();
    middleWhere();
    middleWhat();
    middleSeveral();
    middleFewAndMany();
  }

  private static MirrorsOnStrike line() {
    return Check.told(Edge.LINE);
  }

  private static MirrorsOnStrike star() {
    return Check.told(Edge.STAR);
  }

  /** A ring 0 1 2 3 with a glass at 1 and a pond at 3; 4 hangs on 2, and 5 and 6 on each other. */
  private static MirrorsOnStrike ring() {
    return Check.told("w01;w12;w23;w30;w24;w56;g13;g32;");
  }

  private static MirrorsOnStrike allJoined() {
    MirrorsOnStrike x = Edge.nobody();
    for (int one = 0; one < 8; one++) {
      for (int other = 0; other < one; other++) {
        x.way(one, other);
      }
    }
    return x;
  }

  /** Both places, each beyond either end. */
  private void where(String what, Edge.Call first, Edge.Call second) {
    edge.ends(what + ", from", PlacesEdges::ring, first, 0, -1, 7, -1);
    edge.ends(what + ", to", PlacesEdges::ring, second, 0, -1, 7, -1);
  }

  // ---- Promise 9

  private void wayWho() {
    edge.of(9, "-1 either (one twice).");
    edge.ends("way(.., 0)", Edge::rich, (x, one) -> x.way(one, 0), 1, -1, 7, -1);
    edge.ends("way(.., 7)", Edge::rich, (x, one) -> x.way(one, 7), 0, -1, 6, -1);
    edge.ends("way(0, ..)", Edge::rich, (x, other) -> x.way(0, other), 1, -1, 7, -1);
    edge.ends("way(7, ..)", Edge::rich, (x, other) -> x.way(7, other), 0, -1, 6, -1);
    edge.refused("way(-1, 3)", Edge::rich, x -> x.way(-1, 3), -1);
    edge.refused("way(3, -1)", Edge::rich, x -> x.way(3, -1), -1);
    edge.refused("way(8, 8)", Edge::rich, x -> x.way(8, 8), -1);
  }

  private void wayOneTwice() {
    edge.of(9, "-1 NOBODY: no such one, PLACE, one twice.");
    for (int one = 0; one < 8; one++) {
      int place = one;
      edge.refused("way(" + place + ", " + place + ")", Edge::rich, x -> x.way(place, place), -1);
    }
  }

  private void wayOrNone() {
    edge.of(9, "A WAY, or none any more: 1, 0.");
    MirrorsOnStrike x = Edge.nobody();
    for (int due : new int[] {1, 0, 1, 0}) {
      edge.is("way(0, 7)", due == 1 ? x.way(0, 7) : x.way(7, 0), due);
      edge.is("WAYS", x.count(4), due);
      edge.is("steps(0, 7)", x.steps(0, 7), due == 1 ? 1 : -9);
      edge.is("steps(7, 0)", x.steps(7, 0), due == 1 ? 1 : -9);
    }
  }

  private void allWays() {
    edge.of(9, "PLACES 0 .. 7; two are joined by a WAY or not");
    MirrorsOnStrike x = allJoined();
    edge.is("WAYS", x.count(4), 28);
    for (int one = 0; one < 8; one++) {
      for (int other = 0; other < 8; other++) {
        edge.is("steps", x.steps(one, other), one == other ? 0 : 1);
      }
    }
    edge.is("one less", x.way(7, 6), 0);
    edge.is("WAYS", x.count(4), 27);
    edge.is("steps", x.steps(6, 7), 2);
  }

  // ---- Promise 10

  private void hangsWhere() {
    edge.of(10, "What is at a PLACE becomes another (0 .. 3): what it was. -1");
    edge.ends("hangs(.., 2)", Edge::rich, (x, place) -> x.hangs(place, 2), 0, -1, 7, -1);
  }

  private void hangsWhat() {
    edge.of(10, "-1; -2.");
    edge.ends("hangs(1, ..)", Edge::rich, (x, what) -> x.hangs(1, what), 0, -2, 3, -2);
  }

  private void hangsSeveral() {
    edge.of(10, "the first that fits in the order in which it tells them");
    edge.refused("hangs(8, 4)", Edge::rich, x -> x.hangs(8, 4), -1);
    edge.refused("hangs(-1, -1)", Edge::rich, x -> x.hangs(-1, -1), -1);
  }

  private void hangsGlances() {
    edge.of(10, "GLANCES there 0, 1, 3, 7");
    int[] glances = {0, 1, 3, 7};
    for (int place = 0; place < 8; place++) {
      MirrorsOnStrike x = Edge.nobody();
      int was = 0;
      for (int what : new int[] {3, 3, 1, 2, 0, 0}) {
        edge.is("hangs(" + place + ", " + what + ")", x.hangs(place, what), was);
        edge.is("GLANCES", x.glances(place, place, 0), glances[what]);
        was = what;
      }
    }
  }

  // ---- Promise 32

  private void stepsWhere() {
    edge.of(32, "STEPS; -9. -1 either.");
    where("steps", (x, from) -> x.steps(from, 1), (x, to) -> x.steps(1, to));
    edge.refused("steps(8, 8)", PlacesEdges::ring, x -> x.steps(8, 8), -1);
    edge.taken("steps(3, 3)", PlacesEdges::ring, x -> x.steps(3, 3));
  }

  private void stepsFewAndMany() {
    edge.of(32, "STEPS from a PLACE to another one (-9)");
    for (int one = 0; one < 8; one++) {
      for (int other = 0; other < 8; other++) {
        edge.is("steps, a line", line().steps(one, other), Math.abs(one - other));
        edge.is("steps, no way", Edge.nobody().steps(one, other), one == other ? 0 : -9);
      }
    }
    edge.is("steps to what lies apart", ring().steps(0, 5), -9);
    edge.is("steps of two that lie apart", ring().steps(5, 6), 1);
    edge.is("steps by either side of a ring", ring().steps(0, 2), 2);
  }

  // ---- Promise 33

  private void glancesWhere() {
    edge.of(33, "-1 either; -2.");
    where("glances", (x, from) -> x.glances(from, 1, 0), (x, to) -> x.glances(1, to, 1));
    edge.taken("glances(7, 7, 1)", PlacesEdges::ring, x -> x.glances(7, 7, 1));
  }

  private void glancesWhat() {
    edge.of(33, "GLANCES (what 0; -9), STEPS with so few (1; -9)");
    edge.ends("glances(0, 4, ..)", PlacesEdges::ring, (x, what) -> x.glances(0, 4, what), 0, -2, 1, -2);
    edge.ends("glances(0, 5, ..), no way", PlacesEdges::ring, (x, what) -> x.glances(0, 5, what), 0, -2, 1, -2);
  }

  private void glancesSeveral() {
    edge.of(33, "the first that fits in the order in which it tells them");
    edge.refused("glances(8, 0, 2)", PlacesEdges::ring, x -> x.glances(8, 0, 2), -1);
    edge.refused("glances(0, -1, -1)", PlacesEdges::ring, x -> x.glances(0, -1, -1), -1);
  }

  private void glancesFirstAndLast() {
    edge.of(33, "GLANCES: the fewest on any way, first and last too (-9)");
    int[] glances = {0, 1, 3, 7};
    for (int first = 0; first < 4; first++) {
      for (int last = 0; last < 4; last++) {
        MirrorsOnStrike x = Check.told("w07;g0" + first + ";g7" + last + ";");
        edge.is("glances(0, 7, 0)", x.glances(0, 7, 0), glances[first] + glances[last]);
        edge.is("glances(7, 0, 1)", x.glances(7, 0, 1), 1);
        edge.is("glances(0, 0, 0)", x.glances(0, 0, 0), glances[first]);
        edge.is("glances(0, 0, 1)", x.glances(0, 0, 1), 0);
      }
    }
    MirrorsOnStrike most = Check.told(Edge.LINE, GLASSES);
    edge.is("all glasses", most.glances(0, 7, 0), 56);
    edge.is("all glasses, STEPS", most.glances(7, 0, 1), 7);
    edge.is("nothing anywhere", line().glances(0, 7, 0), 0);
    edge.is("nothing anywhere, STEPS", line().glances(0, 7, 1), 7);
  }

  private void glancesNone() {
    edge.of(33, "(what 0; -9)");
    for (int what = 0; what < 2; what++) {
      edge.is("no way at all", Edge.nobody().glances(0, 7, what), -9);
      edge.is("apart", ring().glances(0, 7, what), -9);
      edge.is("apart, what hangs there", Check.told("g03;g71;").glances(0, 7, what), -9);
    }
  }

  private void glancesStepsWithSoFew() {
    edge.of(33, "the fewest STEPS with so few");
    MirrorsOnStrike x = Check.told("w07;w01;w12;w23;w34;w45;w56;w67;");
    edge.is("as few: the shorter one", x.glances(0, 7, 1), 1);
    x.way(0, 7);
    x.way(1, 7);
    x.hangs(1, 1);
    x.way(0, 2);
    edge.is("round 1: GLANCES", x.glances(0, 7, 0), 0);
    edge.is("round 1: STEPS", x.glances(0, 7, 1), 6);
    edge.is("STEPS, whatever one sees", x.steps(0, 7), 2);
    x.hangs(4, 1);
    edge.is("either way 1 GLANCE", x.glances(0, 7, 0), 1);
    edge.is("either way: the shorter one", x.glances(0, 7, 1), 2);
  }

  // ---- Promise 34

  private void unseenWhere() {
    edge.of(34, "UNSEEN (bits, itself too). -1.");
    edge.ends("unseen", PlacesEdges::ring, MirrorsOnStrike::unseen, 0, -1, 7, -1);
  }

  private void unseenOwnAside() {
    edge.of(34, "PLACES (bits) one can come to without any GLANCE (its own aside)");
    int[] due = {1, 1 + 2 + 4 + 16, 4 + 16, 1 + 4 + 8 + 16, 4 + 16, 32 + 64, 32 + 64, 128};
    for (int place = 0; place < 8; place++) {
      edge.is("unseen(" + place + ")", ring().unseen(place), due[place]);
    }
    for (int what = 1; what < 4; what++) {
      MirrorsOnStrike x = line();
      x.hangs(3, what);
      edge.is("from where it hangs", x.unseen(3), 255);
      edge.is("from below", x.unseen(0), 7);
      edge.is("from above", x.unseen(7), 240);
    }
  }

  private void unseenFewAndMany() {
    edge.of(34, "(bits, itself too)");
    edge.is("no way", Edge.nobody().unseen(7), 128);
    edge.is("all", allJoined().unseen(7), 255);
    edge.is("a line", line().unseen(0), 255);
    edge.is("glasses everywhere", Check.told(Edge.LINE, GLASSES).unseen(0), 1);
  }

  private void unseenWhatHangs() {
    edge.of(34, "one can come to without any GLANCE (its own aside)");
    for (int hung = 0; hung < 8; hung++) {
      MirrorsOnStrike x = line();
      x.hangs(hung, 1);
      for (int place = 0; place < 8; place++) {
        int below = (1 << hung) - 1;
        int due = place < hung ? below : place > hung ? 255 - below - (1 << hung) : 255;
        edge.is("unseen(" + place + "), a spoon at " + hung, x.unseen(place), due);
      }
    }
  }

  // ---- Promise 35

  private void coverWhere() {
    edge.of(35, "COVER; -9. -1 either.");
    where("cover", (x, from) -> x.cover(from, 1), (x, to) -> x.cover(1, to));
  }

  private void coverFewerThanNow() {
    edge.of(35, "GLANCES from a PLACE to another one were fewest, fewer than now");
    edge.is("nothing anywhere", line().cover(0, 7), -9);
    edge.is("from a place to itself", line().cover(3, 3), -9);
    edge.is("elsewhere", Check.told(Edge.LINE, "g73;").cover(0, 6), -9);
    edge.is("first", Check.told(Edge.LINE, "g01;").cover(0, 7), 0);
    edge.is("last", Check.told(Edge.LINE, "g71;").cover(0, 7), 7);
    edge.is("itself", Check.told("g72;").cover(7, 7), 7);
    edge.is("between", Check.told(Edge.LINE, "g41;").cover(7, 0), 4);
    edge.is("another way is as good", Check.told("w01;w13;w02;w23;g13;").cover(0, 3), -9);
    edge.is("the other way becomes better", Check.told("w01;w14;w43;w02;w23;g13;g43;g21;").cover(0, 3), 2);
  }

  private void coverOfSeveral() {
    edge.of(35, "of several the least; -9");
    edge.is("all as good", Check.told(Edge.LINE, GLASSES).cover(0, 7), 0);
    edge.is("all as good, from behind", Check.told(Edge.LINE, GLASSES).cover(7, 1), 1);
    edge.is("two ways", Check.told("w01;w13;w02;w23;g13;g23;").cover(0, 3), 1);
    edge.is("a glass ahead of a pond", Check.told(Edge.LINE, "g12;g63;").cover(0, 7), 6);
    edge.is("a pond ahead of a spoon", Check.told(Edge.LINE, "g11;g62;").cover(0, 7), 6);
  }

  private void coverNoWay() {
    edge.of(35, "(whatever is there)");
    edge.is("no way", Check.told("g03;g73;").cover(0, 7), -9);
    edge.is("apart", ring().cover(1, 5), -9);
    for (int what = 1; what < 4; what++) {
      MirrorsOnStrike x = Check.told("w07;g7" + what + ";");
      edge.is("cover(0, 7)", x.cover(0, 7), 7);
      edge.is("it hangs there still", x.hangs(7, 0), what);
    }
  }

  // ---- Promise 36

  private void bargainWeeks() {
    edge.of(36, "w WEEKS (1 .. 20)");
    edge.ends("bargain(.., 7)", Edge::rich, (x, w) -> x.bargain(w, 7), 1, -4, 20, -6);
  }

  private void bargainCosts() {
    edge.of(36, "-4 (w below 1, c below 0); -6 (20; 50).");
    edge.ends("bargain(3, ..)", Edge::rich, (x, c) -> x.bargain(3, c), 0, -4, 50, -6);
  }

  private void bargainSeveral() {
    edge.of(36, "the first that fits in the order in which it tells them");
    edge.refused("bargain(0, 51)", Edge::rich, x -> x.bargain(0, 51), -4);
    edge.refused("bargain(21, -1)", Edge::rich, x -> x.bargain(21, -1), -4);
    edge.refused("bargain(0, -1)", Edge::rich, x -> x.bargain(0, -1), -4);
    edge.refused("bargain(21, 51)", Edge::rich, x -> x.bargain(21, 51), -6);
  }

  private void bargainLastWeek() {
    edge.of(36, "behind the last nobody has any");
    MirrorsOnStrike x = Edge.nobody();
    for (int c = 0; c <= 50; c++) {
      edge.is("bargain(1, " + c + ")", x.bargain(1, c), 100);
      edge.is("bargain(2, " + c + ")", x.bargain(2, c), c);
      edge.is("bargain(3, " + c + ")", x.bargain(3, c), 100 - c);
    }
    for (int w = 1; w <= 20; w++) {
      edge.is("bargain(" + w + ", 0)", x.bargain(w, 0), w % 2 == 1 ? 100 : 0);
    }
    edge.is("bargain(19, 1)", x.bargain(19, 1), 91);
    edge.is("bargain(20, 1)", x.bargain(20, 1), 10);
    edge.is("bargain(19, 5)", x.bargain(19, 5), 55);
    edge.is("bargain(20, 5)", x.bargain(20, 5), 50);
  }

  private void bargainHoursAtLeast() {
    edge.of(36, "what is not taken costs c (0 .. 50) of the hours (0 at least) each WEEK");
    MirrorsOnStrike x = Edge.nobody();
    for (int w = 4; w <= 20; w++) {
      edge.is("100, 50, 0, 0 ..: " + w, x.bargain(w, 50), 50);
      edge.is("100, 66, 32, 0 ..: " + w, x.bargain(w, 34), 66);
      edge.is("100, 67, 34, 1, 0 ..: " + w, x.bargain(w, 33), 66);
    }
    edge.is("100, 51, 2, 0", x.bargain(4, 49), 51);
    edge.is("100, 51, 2", x.bargain(3, 49), 51);
    edge.is("100, 75, 50, 25", x.bargain(4, 25), 50);
    edge.is("100, 75, 50, 25, 0", x.bargain(5, 25), 50);
    edge.is("100, 74, 48, 22, 0", x.bargain(5, 26), 52);
  }

  // ---- Promise 37

  private void strikeCosts() {
    edge.of(37, "STRIKE. -4; -6 50.");
    edge.ends("strike", Edge::rich, MirrorsOnStrike::strike, 0, -4, 50, -6);
  }

  private void strikeOfSeveral() {
    edge.of(37, "by which w (1 .. 20) the town has most, of several the least");
    MirrorsOnStrike x = Edge.nobody();
    for (int c = 0; c <= 50; c++) {
      edge.is("strike(" + c + ")", x.strike(c), 1);
    }
  }

  // ---- Promise 51

  private void tourWhere() {
    edge.of(51, "TOUR; -9. -1; -4; -6 255.");
    edge.ends("tour(.., 3)", PlacesEdges::ring, (x, place) -> x.tour(place, 3), 0, -1, 7, -1);
  }

  private void tourSets() {
    edge.of(51, "-4; -6 255.");
    edge.ends("tour(3, ..)", PlacesEdges::ring, (x, set) -> x.tour(3, set), 0, -4, 255, -6);
  }

  private void tourSeveral() {
    edge.of(51, "the first that fits in the order in which it tells them");
    edge.refused("tour(8, -1)", PlacesEdges::ring, x -> x.tour(8, -1), -1);
    edge.refused("tour(-1, 256)", PlacesEdges::ring, x -> x.tour(-1, 256), -1);
  }

  private void tourEmptyAndFull() {
    edge.of(51, "the fewest STEPS from a PLACE in which one comes to all PLACES of a set (bits 0 .. 255)");
    for (int place = 0; place < 8; place++) {
      MirrorsOnStrike x = line();
      edge.is("no place", x.tour(place, 0), 0);
      edge.is("itself", x.tour(place, 1 << place), 0);
      edge.is("all of a line", x.tour(place, 255), 7 + Math.min(place, 7 - place));
      edge.is("both ends of a line", x.tour(place, 129), 7 + Math.min(place, 7 - place));
      edge.is("all of a star", star().tour(place, 255), place == 0 ? 13 : 12);
      edge.is("all, all joined", allJoined().tour(place, 255), 7);
      edge.is("all of a star but its middle", star().tour(place, 254), place == 0 ? 13 : 12);
    }
  }

  private void tourNone() {
    edge.of(51, "TOUR; -9");
    for (int place = 0; place < 8; place++) {
      edge.is("no way", Edge.nobody().tour(0, 1 << place), place == 0 ? 0 : -9);
    }
    edge.is("one of all apart", ring().tour(0, 255), -9);
    edge.is("one of two apart", ring().tour(0, 33), -9);
    edge.is("all there are, 4 among them", ring().tour(0, 31), 5);
    edge.is("all apart", ring().tour(5, 96), 1);
  }

  // ---- Promise 52

  private void narrowsWhere() {
    edge.of(52, "NARROWS (bits; -9). -1 either (one twice).");
    edge.ends("narrows(.., 0)", PlacesEdges::ring, (x, from) -> x.narrows(from, 0), 1, -1, 7, -1);
    edge.ends("narrows(.., 7)", PlacesEdges::ring, (x, from) -> x.narrows(from, 7), 0, -1, 6, -1);
    edge.ends("narrows(0, ..)", PlacesEdges::ring, (x, to) -> x.narrows(0, to), 1, -1, 7, -1);
    edge.ends("narrows(7, ..)", PlacesEdges::ring, (x, to) -> x.narrows(7, to), 0, -1, 6, -1);
    edge.refused("narrows(-1, 3)", PlacesEdges::ring, x -> x.narrows(-1, 3), -1);
    edge.refused("narrows(3, -1)", PlacesEdges::ring, x -> x.narrows(3, -1), -1);
  }

  private void narrowsOneTwice() {
    edge.of(52, "-1 either (one twice)");
    for (int one = 0; one < 8; one++) {
      int place = one;
      edge.refused("narrows(" + place + ", " + place + ")", PlacesEdges::line, x -> x.narrows(place, place), -1);
    }
  }

  private void narrowsNeitherOfBoth() {
    edge.of(52, "PLACES (bits; neither of both) each of which lies on all ways from a PLACE to another one");
    edge.is("all others", line().narrows(0, 7), 126);
    edge.is("all others, from behind", line().narrows(7, 0), 126);
    edge.is("none between", line().narrows(3, 4), 0);
    edge.is("one between", line().narrows(5, 7), 64);
    edge.is("all joined", allJoined().narrows(0, 7), 0);
    edge.is("two leaves", star().narrows(1, 7), 1);
    edge.is("a leaf and its middle", star().narrows(7, 0), 0);
    edge.is("a ring", ring().narrows(0, 2), 0);
    edge.is("behind a ring", ring().narrows(0, 4), 4);
  }

  private void narrowsNoWay() {
    edge.of(52, "-9 there is no way");
    edge.is("no way at all", Edge.nobody().narrows(0, 7), -9);
    edge.is("apart", ring().narrows(0, 5), -9);
    edge.is("both apart", ring().narrows(5, 6), 0);
    MirrorsOnStrike x = line();
    x.way(3, 4);
    edge.is("no way any more", x.narrows(0, 7), -9);
  }

  // ---- Promise 53

  private void middleWhere() {
    edge.of(53, "MIDDLE PLACE (what 0), how far (1). -1; -2.");
    edge.ends("middle(.., 0)", PlacesEdges::ring, (x, place) -> x.middle(place, 0), 0, -1, 7, -1);
  }

  private void middleWhat() {
    edge.of(53, "(what 0), how far (1). -1; -2.");
    edge.ends("middle(7, ..)", PlacesEdges::ring, (x, what) -> x.middle(7, what), 0, -2, 1, -2);
  }

  private void middleSeveral() {
    edge.of(53, "the first that fits in the order in which it tells them");
    edge.refused("middle(8, 2)", PlacesEdges::ring, x -> x.middle(8, 2), -1);
    edge.refused("middle(-1, -1)", PlacesEdges::ring, x -> x.middle(-1, -1), -1);
  }

  private void middleFewAndMany() {
    edge.of(53, "(itself one of these), of several the least; how far");
    for (int place = 0; place < 8; place++) {
      middle("no way", Edge::nobody, place, place, 0);
      middle("a line", PlacesEdges::line, place, 3, 4);
      middle("a star", PlacesEdges::star, place, 0, 1);
      middle("all joined", PlacesEdges::allJoined, place, 0, 1);
      middle("the last in the middle", () -> Check.told("w70;w71;w72;w73;w74;w75;w76;"), place, 7, 1);
    }
    middle("two apart", PlacesEdges::ring, 6, 5, 1);
    middle("one apart", PlacesEdges::ring, 7, 7, 0);
    middle("a ring and one more", PlacesEdges::ring, 4, 1, 2);
  }

  private void middle(String what, Supplier<MirrorsOnStrike> made, int from, int place, int far) {
    edge.is(what + ": middle(" + from + ", 0)", made.get().middle(from, 0), place);
    edge.is(what + ": middle(" + from + ", 1)", made.get().middle(from, 1), far);
  }
}
