import java.util.function.Supplier;

/** Promises 1 to 8, 11, 13 and 14 at their edges: people, what they are, what they say, and weeks. */
final class PeopleEdges {
  private final Edge edge;

  PeopleEdges(Edge edge) {
    this.edge = edge;
  }

  void all() {
    newObject();
    placesAtFirst();
    personWho();
    personWhat();
    personSeveral();
    personValues();
    peopleComeTillSeven();
    comesKinds();
    comesFigures();
    comesLooks();
    comesSeveral();
    beliefAtFirst();
    asksNoneAtFirst();
    asksWho();
    asksHimself();
    asksAllOthers();
    asksOrNotAnyMore();
    believesWho();
    believesValues();
    believesSeveral();
    kindWho();
    kindKinds();
    kindFigures();
    kindSeveral();
    kindWas();
    weekOfNobody();
    weekOfAll();
    weekMeanCut();
    weekAtOnce();
    weekTillThen();
    weeksToldSoFar();
    saysWho();
    saysOneTwice();
    saysNow();
    saysOfWho();
    saysOfLooks();
    saysOfSeveral();
    flattererAtMost();
    spitefulAtLeast();
    sisterCut();
    blindAtLeast();
    spoonEnds();
  }

  private static Supplier<MirrorsOnStrike> town(String... texts) {
    return () -> Check.told(texts);
  }

  // ---- Promise 1

  private void newObject() {
    edge.of(1, "Nobody.");
    MirrorsOnStrike x = Edge.nobody();
    for (int what = 0; what <= 17; what++) {
      edge.is("count(" + what + ")", x.count(what), what > 7 && what < 11 || what > 16 ? -9 : 0);
    }
    edge.is("judge()", x.judge(), -9);
    edge.is("clear()", x.clear(), 0);
    edge.refused("person(0, 0)", Edge::nobody, y -> y.person(0, 0), -1);
    edge.refused("back()", Edge::nobody, MirrorsOnStrike::back, -3);
    edge.refused("restore()", Edge::nobody, MirrorsOnStrike::restore, -3);
    edge.is("town()", x.town(), -1000);
  }

  private void placesAtFirst() {
    edge.of(1, "two are joined by a WAY or not (not at first); in each there is nothing (0, at first)");
    MirrorsOnStrike x = Edge.nobody();
    for (int place = 0; place < 8; place++) {
      edge.is("glances", x.glances(place, place, 0), 0);
      edge.is("unseen", x.unseen(place), 1 << place);
      for (int other = 0; other < 8; other++) {
        edge.is("steps", x.steps(place, other), place == other ? 0 : -9);
      }
      edge.is("hangs", x.hangs(place, 0), 0);
    }
  }

  // ---- Promise 4

  private void personWho() {
    edge.of(4, "-1; -2.");
    edge.ends("person(.., 3)", Edge::rich, (x, one) -> x.person(one, 3), 0, -1, 4, -1);
    edge.ends("person(.., 0), seven there", Edge::seven, (x, one) -> x.person(one, 0), 0, -1, 6, -1);
    edge.refused("person(0, 0), nobody there", Edge::nobody, x -> x.person(0, 0), -1);
    edge.refused("person(1, 0), one there", Edge::alone, x -> x.person(1, 0), -1);
  }

  private void personWhat() {
    edge.of(4, "KIND (what 0), FIGURE (1), LOOK (2), BELIEF (3), ASKS (4, bits)");
    edge.ends("person(4, ..)", Edge::rich, (x, what) -> x.person(4, what), 0, -2, 4, -2);
  }

  private void personSeveral() {
    edge.of(4, "the first that fits in the order in which it tells them");
    edge.refused("person(5, 5)", Edge::rich, x -> x.person(5, 5), -1);
    edge.refused("person(-1, -1)", Edge::rich, x -> x.person(-1, -1), -1);
  }

  private void personValues() {
    edge.of(4, "a FIGURE (0 .. 9), a LOOK (0 .. 99), a BELIEF of it (0 .. 99");
    MirrorsOnStrike x = Check.told("p0000;p5999;b199;b099;", "a01;a10;");
    int[][] due = {{0, 0, 0, 99, 2}, {5, 9, 99, 99, 1}};
    for (int one = 0; one < 2; one++) {
      for (int what = 0; what < 5; what++) {
        edge.is("person(" + one + ", " + what + ")", x.person(one, what), due[one][what]);
      }
    }
    x.believes(1, 0);
    edge.is("person(1, 3)", x.person(1, 3), 0);
  }

  // ---- Promise 5

  private void peopleComeTillSeven() {
    edge.of(5, "(9; 99; 7 there are)");
    MirrorsOnStrike x = Edge.nobody();
    for (int number = 0; number < 7; number++) {
      edge.is("comes", x.comes(number % 6, number, 10 * number), number);
      edge.is("count(0)", x.count(0), number + 1);
    }
    edge.refused("comes(0, 0, 0), seven there", Edge::seven, y -> y.comes(0, 0, 0), -6);
    edge.is("the seventh is the last that came", x.person(6, 2), 60);
  }

  private void comesKinds() {
    edge.of(5, "0 PERSON; 1 FLATTERER under PERSON; 2 SPITEFUL under PERSON; 3 SISTER under FLATTERER; "
        + "4 BLIND under SPITEFUL; 5 SPOON under PERSON");
    edge.ends("comes(.., 3, 50)", Edge::rich, (x, kind) -> x.comes(kind, 3, 50), 0, -2, 5, -2);
  }

  private void comesFigures() {
    edge.of(5, "-2; -4 either; -6 (9; 99; 7 there are).");
    edge.ends("comes(0, .., 50)", Edge::rich, (x, figure) -> x.comes(0, figure, 50), 0, -4, 9, -6);
    MirrorsOnStrike x = Edge.nobody();
    x.comes(0, 0, 0);
    x.comes(5, 9, 99);
    edge.is("FIGURE 0", x.person(0, 1), 0);
    edge.is("FIGURE 9", x.person(1, 1), 9);
  }

  private void comesLooks() {
    edge.of(5, "-4 either; -6 (9; 99");
    edge.ends("comes(0, 5, ..)", Edge::rich, (x, look) -> x.comes(0, 5, look), 0, -4, 99, -6);
    MirrorsOnStrike x = Edge.nobody();
    x.comes(0, 9, 0);
    x.comes(0, 0, 99);
    edge.is("LOOK 0", x.person(0, 2), 0);
    edge.is("LOOK 99", x.person(1, 2), 99);
  }

  private void comesSeveral() {
    edge.of(5, "the first that fits in the order in which it tells them");
    edge.refused("comes(6, -1, 100), seven there", Edge::seven, x -> x.comes(6, -1, 100), -2);
    edge.refused("comes(-1, 10, -1)", Edge::rich, x -> x.comes(-1, 10, -1), -2);
    edge.refused("comes(0, -1, 100), seven there", Edge::seven, x -> x.comes(0, -1, 100), -4);
    edge.refused("comes(0, 10, -1), seven there", Edge::seven, x -> x.comes(0, 10, -1), -4);
    edge.refused("comes(6, 0, 0), seven there", Edge::seven, x -> x.comes(6, 0, 0), -2);
    edge.refused("comes(0, 0, -1), seven there", Edge::seven, x -> x.comes(0, 0, -1), -4);
  }

  private void beliefAtFirst() {
    edge.of(5, "a BELIEF of it (0 .. 99; its LOOK at first)");
    MirrorsOnStrike x = Edge.nobody();
    int[] looks = {0, 1, 50, 98, 99};
    for (int one = 0; one < looks.length; one++) {
      x.comes(4, 9, looks[one]);
      edge.is("BELIEF", x.person(one, 3), looks[one]);
    }
  }

  private void asksNoneAtFirst() {
    edge.of(5, "ASKS: whom (bits; never himself; none at first)");
    MirrorsOnStrike x = Check.told("p0000;p0000;a01;a10;");
    x.image();
    for (int one = 2; one < 7; one++) {
      x.comes(0, 0, 0);
      edge.is("ASKS", x.person(one, 4), 0);
      edge.is("whom nobody asks", x.loops(2) >> one & 1, 1);
    }
    x.asks(2, 0);
    x.restore();
    x.comes(0, 0, 0);
    edge.is("ASKS of one who comes where another one was", x.person(2, 4), 0);
  }

  // ---- Promise 6

  private void asksWho() {
    edge.of(6, "-1 either (one twice)");
    edge.ends("asks(.., 0)", Edge::rich, (x, one) -> x.asks(one, 0), 1, -1, 4, -1);
    edge.ends("asks(0, ..)", Edge::rich, (x, other) -> x.asks(0, other), 1, -1, 4, -1);
    edge.ends("asks(.., 6), seven there", Edge::seven, (x, one) -> x.asks(one, 6), 0, -1, 5, -1);
    edge.refused("asks(-1, 0)", Edge::rich, x -> x.asks(-1, 0), -1);
    edge.refused("asks(0, -1)", Edge::rich, x -> x.asks(0, -1), -1);
    edge.refused("asks(0, 1), one there", Edge::alone, x -> x.asks(0, 1), -1);
    edge.refused("asks(0, 0), nobody there", Edge::nobody, x -> x.asks(0, 0), -1);
  }

  private void asksHimself() {
    edge.of(6, "ASKS: whom (bits; never himself");
    for (int one = 0; one < 7; one++) {
      int who = one;
      edge.refused("asks(" + who + ", " + who + ")", Edge::seven, x -> x.asks(who, who), -1);
    }
  }

  private void asksAllOthers() {
    edge.of(6, "PEOPLE 0 .. 6 as they come (7 at most)");
    MirrorsOnStrike x = Edge.seven();
    for (int one = 0; one < 7; one++) {
      for (int other = 0; other < 7; other++) {
        if (one != other) {
          edge.is("asks(" + one + ", " + other + ")", x.asks(one, other), 1);
        }
      }
      edge.is("ASKS", x.person(one, 4), 127 - (1 << one));
    }
  }

  private void asksOrNotAnyMore() {
    edge.of(6, "The first ASKS the other, or not any more: 1, 0.");
    MirrorsOnStrike x = Edge.seven();
    for (int due : new int[] {1, 0, 1, 0}) {
      edge.is("asks(0, 6)", x.asks(0, 6), due);
      edge.is("ASKS of 0", x.person(0, 4), due << 6);
      edge.is("ASKS of 6", x.person(6, 4), 0);
    }
    edge.is("asks(6, 0)", x.asks(6, 0), 1);
    edge.is("ASKS of 6", x.person(6, 4), 1);
    edge.is("ASKS of 0", x.person(0, 4), 0);
  }

  // ---- Promise 7

  private void believesWho() {
    edge.of(7, "BELIEF becomes v: what it was. -1");
    edge.ends("believes(.., 7)", Edge::rich, (x, one) -> x.believes(one, 7), 0, -1, 4, -1);
    edge.ends("believes(.., 7), seven there", Edge::seven, (x, one) -> x.believes(one, 7), 0, -1, 6, -1);
    edge.refused("believes(0, 0), nobody there", Edge::nobody, x -> x.believes(0, 0), -1);
  }

  private void believesValues() {
    edge.of(7, "-4; -6 99.");
    edge.ends("believes(4, ..)", Edge::rich, (x, v) -> x.believes(4, v), 0, -4, 99, -6);
    MirrorsOnStrike x = Edge.alone();
    edge.is("believes(0, 0)", x.believes(0, 0), 50);
    edge.is("believes(0, 99)", x.believes(0, 99), 0);
    edge.is("believes(0, 99) again", x.believes(0, 99), 99);
    edge.is("BELIEF", x.person(0, 3), 99);
    edge.is("LOOK", x.person(0, 2), 50);
  }

  private void believesSeveral() {
    edge.of(7, "the first that fits in the order in which it tells them");
    edge.refused("believes(5, -1)", Edge::rich, x -> x.believes(5, -1), -1);
    edge.refused("believes(-1, 100)", Edge::rich, x -> x.believes(-1, 100), -1);
  }

  // ---- Promise 8

  private void kindWho() {
    edge.of(8, "KIND, FIGURE of one: 10 times the KIND and the FIGURE it had. -1");
    edge.ends("kind(.., 1, 2)", Edge::rich, (x, one) -> x.kind(one, 1, 2), 0, -1, 4, -1);
    edge.ends("kind(.., 1, 2), seven there", Edge::seven, (x, one) -> x.kind(one, 1, 2), 0, -1, 6, -1);
    edge.refused("kind(0, 0, 0), nobody there", Edge::nobody, x -> x.kind(0, 0, 0), -1);
  }

  private void kindKinds() {
    edge.of(8, "-1; -2; -4; -6 9.");
    edge.ends("kind(1, .., 2)", Edge::rich, (x, kind) -> x.kind(1, kind, 2), 0, -2, 5, -2);
  }

  private void kindFigures() {
    edge.of(8, "-4; -6 9.");
    edge.ends("kind(1, 2, ..)", Edge::rich, (x, figure) -> x.kind(1, 2, figure), 0, -4, 9, -6);
  }

  private void kindSeveral() {
    edge.of(8, "the first that fits in the order in which it tells them");
    edge.refused("kind(5, 6, 10)", Edge::rich, x -> x.kind(5, 6, 10), -1);
    edge.refused("kind(5, 0, -1)", Edge::rich, x -> x.kind(5, 0, -1), -1);
    edge.refused("kind(0, 6, -1)", Edge::rich, x -> x.kind(0, 6, -1), -2);
    edge.refused("kind(0, -1, 10)", Edge::rich, x -> x.kind(0, -1, 10), -2);
  }

  private void kindWas() {
    edge.of(8, "10 times the KIND and the FIGURE it had");
    MirrorsOnStrike x = Check.told("p0000;");
    edge.is("kind(0, 5, 9)", x.kind(0, 5, 9), 0);
    edge.is("kind(0, 0, 9)", x.kind(0, 0, 9), 59);
    edge.is("kind(0, 5, 0)", x.kind(0, 5, 0), 9);
    edge.is("kind(0, 5, 0) again", x.kind(0, 5, 0), 50);
    edge.is("KIND", x.person(0, 0), 5);
    edge.is("FIGURE", x.person(0, 1), 0);
  }

  // ---- Promise 11

  private void weekOfNobody() {
    edge.of(11, "A WEEK goes by: how many BELIEVE otherwise.");
    MirrorsOnStrike x = Edge.nobody();
    edge.is("week(), nobody there", x.week(), 0);
    edge.is("WEEKS", x.count(1), 1);
    MirrorsOnStrike one = Edge.alone();
    one.believes(0, 7);
    edge.is("week(), one there", one.week(), 0);
    edge.is("BELIEF of one who asks nobody", one.person(0, 3), 7);
  }

  private void weekOfAll() {
    edge.of(11, "each who ASKS somebody BELIEVES");
    MirrorsOnStrike x = Check.told("p0001;p0002;p0003;p0004;p0005;p0006;p0007;", "a01;a12;a23;a34;a45;a56;a60;");
    edge.is("all know", x.week(), 0);
    for (int one = 0; one < 7; one++) {
      x.believes(one, 99);
    }
    edge.is("all seven believe otherwise", x.week(), 7);
    for (int one = 0; one < 7; one++) {
      edge.is("BELIEF of " + one, x.person(one, 3), one + 1);
    }
    edge.is("none believes otherwise", x.week(), 0);
  }

  private void weekMeanCut() {
    edge.of(11, "BELIEVES the mean, cut, of what they SAY of him");
    MirrorsOnStrike x = Check.told(Edge.SEVEN, "a60;a61;a62;a63;a64;a65;");
    x.week();
    edge.is("99, 99, 89, 79, 66 and 0 of six", x.person(6, 3), 72);
    x.believes(4, 69);
    x.week();
    edge.is("99, 99, 89, 79, 65 and 0 of six", x.person(6, 3), 71);
    MirrorsOnStrike low = Check.told("p0000;b099;p1100;p0000;a01;a02;");
    low.week();
    edge.is("1 and 0 of two", low.person(0, 3), 0);
    MirrorsOnStrike high = Check.told("p0099;b000;p0000;p0000;a01;a02;");
    high.week();
    edge.is("99 and 99 of two", high.person(0, 3), 99);
  }

  private void weekAtOnce() {
    edge.of(11, "A WEEK: at once, each who ASKS somebody BELIEVES");
    MirrorsOnStrike x = Check.told("p4000;p4000;b010;b120;a01;a10;");
    edge.is("both believe otherwise", x.week(), 2);
    edge.is("BELIEF of 0", x.person(0, 3), 20);
    edge.is("BELIEF of 1", x.person(1, 3), 10);
  }

  private void weekTillThen() {
    edge.of(11, "-6 WEEKS 999.");
    MirrorsOnStrike x = Edge.weeksMore(Edge.alone(), 998);
    edge.is("WEEKS", x.count(1), 998);
    edge.is("the 999th", x.week(), 0);
    edge.is("WEEKS", x.count(1), 999);
    edge.is("TAKEN BACK", x.back(), 0);
    edge.is("the 999th again", x.week(), 0);
    edge.refused("the 1000th", () -> Edge.weeksMore(Edge.alone(), 999), MirrorsOnStrike::week, -6);
  }

  private void weeksToldSoFar() {
    edge.of(11, "WEEKS told so far (0 .. 999)");
    MirrorsOnStrike x = Check.told(Edge.FALL);
    edge.is("at first", x.count(1), 0);
    edge.is("week()", x.week(), 1);
    edge.is("behind week()", x.count(1), 1);
    x.belief(0, 60);
    x.lots(20, 5, 0);
    edge.is("behind what is in mind alone", x.count(1), 1);
    Check.tell(x, "n0;n9;");
    edge.is("behind a town", x.count(1), 10);
    edge.is("image()", x.image(), 10);
    edge.is("as many as there may be", Edge.weeksMore(x, 989).count(1), 999);
  }

  // ---- Promise 13

  private void saysWho() {
    edge.of(13, "FACE SAID: what one SAYS of another (-1 either, one twice).");
    edge.ends("says(.., 0)", Edge::rich, (x, one) -> x.says(one, 0), 1, -1, 4, -1);
    edge.ends("says(0, ..)", Edge::rich, (x, other) -> x.says(0, other), 1, -1, 4, -1);
    edge.ends("says(.., 6), seven there", Edge::seven, (x, one) -> x.says(one, 6), 0, -1, 5, -1);
    edge.refused("says(-1, 0)", Edge::rich, x -> x.says(-1, 0), -1);
    edge.refused("says(0, -1)", Edge::rich, x -> x.says(0, -1), -1);
    edge.refused("says(0, 1), one there", Edge::alone, x -> x.says(0, 1), -1);
  }

  private void saysOneTwice() {
    edge.of(13, "(-1 either, one twice)");
    for (int one = 0; one < 7; one++) {
      int who = one;
      edge.refused("says(" + who + ", " + who + ")", Edge::seven, x -> x.says(who, who), -1);
    }
    edge.refused("says(0, 0), nobody there", Edge::nobody, x -> x.says(0, 0), -1);
  }

  private void saysNow() {
    edge.of(13, "FACE SAID: what one SAYS of another now");
    MirrorsOnStrike x = Check.told("p0000;p0099;p3999;p4900;p5000;b044;b155;");
    int[][] due = {{0, 99}, {0, 99}, {54, 99}, {0, 0}, {99, 0}};
    for (int one = 0; one < due.length; one++) {
      for (int other = 0; other < 2; other++) {
        if (one != other) {
          edge.is("says(" + one + ", " + other + ")", x.says(one, other), due[one][other]);
        }
      }
    }
    x.believes(2, 0);
    x.believes(3, 99);
    edge.is("says(2, 0), who believes otherwise", x.says(2, 0), 4);
    edge.is("says(3, 0), who believes otherwise", x.says(3, 0), 81);
  }

  // ---- Promise 14, and what each kind says

  private void saysOfWho() {
    edge.of(14, "What one SAYS of a LOOK. -1");
    edge.ends("saysOf(.., 50)", Edge::rich, (x, one) -> x.saysOf(one, 50), 0, -1, 4, -1);
    edge.ends("saysOf(.., 50), seven there", Edge::seven, (x, one) -> x.saysOf(one, 50), 0, -1, 6, -1);
    edge.refused("saysOf(0, 0), nobody there", Edge::nobody, x -> x.saysOf(0, 0), -1);
    edge.is("saysOf(0, 50), one there", Edge.alone().saysOf(0, 50), 50);
  }

  private void saysOfLooks() {
    edge.of(14, "-1; -4; -6 99.");
    for (int one = 0; one < 7; one++) {
      int who = one;
      edge.ends("saysOf(" + who + ", ..)", Edge::seven, (x, look) -> x.saysOf(who, look), 0, -4, 99, -6);
    }
  }

  private void saysOfSeveral() {
    edge.of(14, "the first that fits in the order in which it tells them");
    edge.refused("saysOf(5, -1)", Edge::rich, x -> x.saysOf(5, -1), -1);
    edge.refused("saysOf(-1, 100)", Edge::rich, x -> x.saysOf(-1, 100), -1);
  }

  /** What the first one says of each of these looks, two by two: the look and what is due. */
  private void said(Supplier<MirrorsOnStrike> made, int... pairs) {
    MirrorsOnStrike x = made.get();
    for (int i = 0; i < pairs.length; i += 2) {
      edge.is("saysOf(0, " + pairs[i] + ")", x.saysOf(0, pairs[i]), pairs[i + 1]);
      MirrorsOnStrike y = made.get();
      y.comes(0, 0, pairs[i]);
      edge.is("says(0, 1) of the look " + pairs[i], y.says(0, 1), pairs[i + 1]);
    }
  }

  private void flattererAtMost() {
    edge.of(14, "FLATTERER FIGURE more (99 at most)");
    said(town("p1950;"), 0, 9, 89, 98, 90, 99, 91, 99, 99, 99);
    said(town("p1050;"), 0, 0, 98, 98, 99, 99);
    said(town("p1150;"), 97, 98, 98, 99, 99, 99);
  }

  private void spitefulAtLeast() {
    edge.of(14, "SPITEFUL twice FIGURE less (0 at least)");
    said(town("p2950;"), 0, 0, 17, 0, 18, 0, 19, 1, 99, 81);
    said(town("p2050;"), 0, 0, 1, 1, 99, 99);
    said(town("p2150;"), 0, 0, 1, 0, 2, 0, 3, 1);
  }

  private void sisterCut() {
    edge.of(14, "SISTER half of what a FLATTERER's and its own BELIEF are together, cut");
    said(town("p3999;"), 0, 54, 89, 98, 90, 99, 99, 99);
    said(town("p3900;"), 0, 4, 89, 49, 90, 49, 91, 49, 99, 49);
    said(town("p3001;"), 0, 0, 1, 1, 2, 1, 3, 2);
    said(town("p3000;"), 0, 0, 1, 0, 2, 1, 99, 49);
  }

  private void blindAtLeast() {
    edge.of(14, "BLIND as a SPITEFUL, but of its own BELIEF in place of that LOOK");
    said(town("p4999;"), 0, 81, 99, 81);
    said(town("p4918;"), 0, 0, 99, 0);
    said(town("p4917;"), 99, 0);
    said(town("p4919;"), 0, 1);
    said(town("p4099;b000;"), 0, 0, 99, 0);
    said(town("p4000;b099;"), 0, 99, 99, 99);
  }

  private void spoonEnds() {
    edge.of(14, "SPOON 99 less a PERSON's");
    said(town("p5950;"), 0, 99, 1, 98, 98, 1, 99, 0);
    said(town("p0950;"), 0, 0, 99, 99);
  }
}
