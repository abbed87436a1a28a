import java.util.function.Supplier;

/** Promises 28 to 30 and 55 to 58 at their edges: the row of numbers, and weeks by lot. */
final class RowEdges {
  private static final long ALL_SEEDS = 1L << 32;
  private final Edge edge;

  RowEdges(Edge edge) {
    this.edge = edge;
  }

  void all() {
    thiefWhat();
    thiefMoreNumbers();
    thiefSeveral();
    thiefEmptyAndFull();
    thiefNothingSaid();
    thiefLooks();
    thiefRowStays();
    tellsMostWhat();
    tellsMostMoreNumbers();
    tellsMostNobody();
    tellsMostSeveral();
    tellsMostKinds();
    tellsMostOfSeveral();
    tellsMostNoneFits();
    tellsMostRowStays();
    photosBelow();
    photosNotAsMany();
    photosSeveral();
    photosEmptyAndFull();
    photosWhose();
    photosFirstWay();
    photosEachAnother();
    photosRowStays();
    rowValues();
    rowTwelve();
    rowSeveral();
    judgeEmptyAndFull();
    judgeNoSuchOne();
    judgeFirst();
    judgeLeavesNone();
    clearFewAndMany();
    lotsTimes();
    lotsWhat();
    lotsSeveral();
    lotsSeeds();
    lotsWithoutSign();
    lotsHimselfAside();
    lotsMoreThanFive();
    lotsInMind();
  }

  /** Such a town, with such a ROW. */
  private static Supplier<MirrorsOnStrike> row(String town, int... values) {
    return () -> {
      MirrorsOnStrike x = town.isEmpty() ? Edge.nobody() : Check.told(town);
      for (int v : values) {
        x.row(v);
      }
      return x;
    };
  }

  private static Supplier<MirrorsOnStrike> fullRow(String town) {
    return row(town, 1, 2, 3, 4, 5, 6, 7, 8, 9, 10, 11, 12);
  }

  // ---- Promise 28

  private void thiefWhat() {
    edge.of(28, "LOOKS (what 0), the least (1; -9), PEOPLE (2, bits). -2");
    edge.ends("thief", Edge::rich, MirrorsOnStrike::thief, 0, -2, 2, -2);
    edge.ends("thief, nobody there", Edge::nobody, MirrorsOnStrike::thief, 0, -2, 2, -2);
  }

  private void thiefMoreNumbers() {
    edge.of(28, "-3 more numbers than PEOPLE.");
    for (int w = 0; w < 3; w++) {
      int what = w;
      edge.refused("1 number, nobody there", row("", 99), x -> x.thief(what), -3);
      edge.refused("2 numbers, one there", row("p0050;", 50, 99), x -> x.thief(what), -3);
      edge.refused("8 numbers, seven there", row(Edge.SEVEN, 99, 99, 99, 99, 99, 99, 99, 99), x -> x.thief(what), -3);
      edge.refused("12 numbers, one there", fullRow("p0050;"), x -> x.thief(what), -3);
      edge.taken("no number, nobody there", row(""), x -> x.thief(what));
      edge.taken("1 number, one there", row("p0050;", 50), x -> x.thief(what));
      edge.taken("7 numbers, seven there", row(Edge.SEVEN, 1, 2, 3, 4, 5, 6, 7), x -> x.thief(what));
    }
  }

  private void thiefSeveral() {
    edge.of(28, "the first that fits in the order in which it tells them");
    edge.refused("thief(3), 1 number, nobody there", row("", 99), x -> x.thief(3), -2);
    edge.refused("thief(-1), 12 numbers", fullRow("p0050;"), x -> x.thief(-1), -2);
  }

  private void thief(String what, Supplier<MirrorsOnStrike> made, int many, int least, int who) {
    edge.is(what + ": thief(0)", made.get().thief(0), many);
    edge.is(what + ": thief(1)", made.get().thief(1), least);
    edge.is(what + ": thief(2)", made.get().thief(2), who);
  }

  private void thiefEmptyAndFull() {
    edge.of(28, "THIEF: a ROW tells what PEOPLE 0, 1, .. SAY of somebody's LOOK");
    thief("no number, nobody there", row(""), 100, 0, 0);
    thief("no number, one there", row("p0050;"), 100, 0, 1);
    thief("no number, seven there", row(Edge.SEVEN), 100, 0, 127);
    thief("7 numbers, seven there", row(Edge.SEVEN, 20, 24, 10, 42, 66, 79, 20), 1, 20, 32);
    thief("the last of 7 says otherwise", row(Edge.SEVEN, 20, 24, 10, 42, 66, 79, 21), 0, -9, 0);
  }

  private void thiefNothingSaid() {
    edge.of(28, "(99 stands for nothing said)");
    thief("99 of one who would say so of 99 alone", row("p0050;", 99), 100, 0, 1);
    thief("98", row("p0098;", 98), 1, 98, 1);
    thief("99 of one who never says so", row("p4050;", 99), 100, 0, 1);
    thief("seven times 99", row(Edge.SEVEN, 99, 99, 99, 99, 99, 99, 99), 100, 0, 127);
    thief("six times 99, and 0", row(Edge.SEVEN, 99, 99, 99, 99, 99, 99, 0), 1, 0, 0);
  }

  private void thiefLooks() {
    edge.of(28, "which LOOKS (0 .. 99) could be so: how many; the least; -9; which PEOPLE (bits) have such LOOKS");
    thief("0", row("p0000;", 0), 1, 0, 1);
    thief("99 by a spoon's 0", row("p5099;", 0), 1, 99, 1);
    thief("0 to 18 by a spiteful's 0", row("p2918;p0019;p0000;", 0), 19, 0, 5);
    thief("99 by a spiteful's 81", row("p2999;p0098;", 81), 1, 99, 1);
    thief("none by a spiteful's 82", row("p2999;p0099;", 82), 0, -9, 0);
    thief("none by a flatterer's 8", row("p1900;", 8), 0, -9, 0);
    thief("0 by a flatterer's 9", row("p1900;", 9), 1, 0, 1);
    thief("all by a blind one's belief", row("p4050;", 50), 100, 0, 1);
    thief("none by another", row("p4050;", 51), 0, -9, 0);
    thief("two say otherwise", row("p0010;p0010;", 10, 11), 0, -9, 0);
  }

  /** Behind the call the ROW is as it was: judge() tells no one who believes otherwise. */
  private void stays(Edge.Call call) {
    for (int what = 0; what < 3; what++) {
      MirrorsOnStrike x = row(Edge.SEVEN, 50, 40, 30, 60, 70, 20, 99).get();
      call.on(x, what);
      edge.is("in the ROW", x.count(6), 7);
      edge.is("judge()", x.judge(), -9);
      MirrorsOnStrike full = row("", 1, 2, 3, 4, 5, 6, 7, 8, 9, 10, 11, 12).get();
      call.on(full, what);
      edge.is("in the ROW of 12, refused", full.count(6), 12);
    }
  }

  private void thiefRowStays() {
    edge.of(28, "THIEF by the ROW (it stays)");
    stays(MirrorsOnStrike::thief);
  }

  // ---- Promise 29

  private void tellsMostWhat() {
    edge.of(29, "whose word (what 0; -9), how many kinds (1; -9). -2");
    edge.ends("tellsMost", Edge::rich, MirrorsOnStrike::tellsMost, 0, -2, 1, -2);
  }

  private void tellsMostMoreNumbers() {
    edge.of(29, "-3 more numbers than PEOPLE, nobody.");
    for (int w = 0; w < 2; w++) {
      int what = w;
      edge.refused("2 numbers, one there", row("p0050;", 50, 99), x -> x.tellsMost(what), -3);
      edge.refused("8 numbers, seven there", row(Edge.SEVEN, 99, 99, 99, 99, 99, 99, 99, 99), x -> x.tellsMost(what), -3);
      edge.refused("12 numbers, one there", fullRow("p0050;"), x -> x.tellsMost(what), -3);
      edge.taken("1 number, one there", row("p0050;", 50), x -> x.tellsMost(what));
      edge.taken("7 numbers, seven there", row(Edge.SEVEN, 1, 2, 3, 4, 5, 6, 7), x -> x.tellsMost(what));
    }
  }

  private void tellsMostNobody() {
    edge.of(29, "nobody.");
    for (int w = 0; w < 2; w++) {
      int what = w;
      edge.refused("no number, nobody there", row(""), x -> x.tellsMost(what), -3);
      edge.refused("1 number, nobody there", row("", 99), x -> x.tellsMost(what), -3);
      edge.taken("no number, one there", row("p0050;"), x -> x.tellsMost(what));
    }
  }

  private void tellsMostSeveral() {
    edge.of(29, "the first that fits in the order in which it tells them");
    edge.refused("tellsMost(2), nobody there", row(""), x -> x.tellsMost(2), -2);
    edge.refused("tellsMost(-1), 12 numbers", fullRow("p0050;"), x -> x.tellsMost(-1), -2);
  }

  private void most(String what, Supplier<MirrorsOnStrike> made, int who, int kinds) {
    edge.is(what + ": tellsMost(0)", made.get().tellsMost(0), who);
    edge.is(what + ": tellsMost(1)", made.get().tellsMost(1), kinds);
  }

  private void tellsMostKinds() {
    edge.of(29, "the one whose word would part these LOOKS into most kinds (unlike numbers SAID)");
    most("a person", row("p0050;"), 0, 100);
    most("a spoon", row("p5050;"), 0, 100);
    most("a flatterer", row("p1950;"), 0, 91);
    most("a spiteful", row("p2950;"), 0, 82);
    most("a sister", row("p3050;"), 0, 50);
    most("a blind one", row("p4950;"), 0, 1);
    most("one LOOK alone", row("p0050;", 50), 0, 1);
    most("a person, who said nothing", row("p0050;", 99), 0, 100);
  }

  private void tellsMostOfSeveral() {
    edge.of(29, "of several the least; how many kinds");
    most("as many", row("p0050;p0050;p0050;"), 0, 100);
    most("the last alone", row("p4050;p4050;p4050;p4050;p4050;p4050;p1150;"), 6, 99);
    most("more by 1", row("p1250;p1150;p1150;"), 1, 99);
    most("19 LOOKS are left, 0 to 18", row("p2950;p1050;p0050;", 0), 1, 19);
    most("10 LOOKS are left, 90 to 99", row("p0050;p1950;p5050;", 99, 99, 9), 0, 1);
  }

  private void tellsMostNoneFits() {
    edge.of(29, "-9 none fits");
    most("two say otherwise", row("p0050;p0050;", 1, 2), -9, -9);
    most("a flatterer's 8", row("p1950;", 8), -9, -9);
    most("a blind one says otherwise", row("p4050;p0050;", 51), -9, -9);
  }

  private void tellsMostRowStays() {
    edge.of(29, "TELLS MOST by the ROW (it stays)");
    stays(MirrorsOnStrike::tellsMost);
  }

  // ---- Promise 30

  private void photosBelow() {
    edge.of(30, "-4 below -1");
    edge.refused("photos(-2)", row("p0050;", 50), x -> x.photos(-2), -4);
    edge.refused("photos(least)", row("p0050;", 50), x -> x.photos(Edge.LEAST), -4);
    edge.refused("photos(-2), nobody there", row(""), x -> x.photos(-2), -4);
    edge.taken("photos(-1)", row("p0050;", 50), x -> x.photos(-1));
    edge.taken("photos(0)", row("p0050;", 50), x -> x.photos(0));
    edge.taken("photos(most)", row("p0050;", 50), x -> x.photos(Edge.MOST));
  }

  private void photosNotAsMany() {
    edge.of(30, "-3 not as many as PEOPLE");
    for (int whose : new int[] {-1, 0, 1, 6, 7}) {
      edge.refused("1 number, nobody there", row("", 0), x -> x.photos(whose), -3);
      edge.refused("no number, one there", row("p0050;"), x -> x.photos(whose), -3);
      edge.refused("2 numbers, one there", row("p0050;", 50, 50), x -> x.photos(whose), -3);
      edge.refused("6 numbers, seven there", row(Edge.SEVEN, 1, 2, 3, 4, 5, 6), x -> x.photos(whose), -3);
      edge.refused("8 numbers, seven there", row(Edge.SEVEN, 1, 2, 3, 4, 5, 6, 7, 8), x -> x.photos(whose), -3);
      edge.refused("12 numbers, seven there", fullRow(Edge.SEVEN), x -> x.photos(whose), -3);
    }
  }

  private void photosSeveral() {
    edge.of(30, "the first that fits in the order in which it tells them");
    edge.refused("photos(-2), no number, one there", row("p0050;"), x -> x.photos(-2), -4);
    edge.refused("photos(-2), 12 numbers", fullRow(Edge.SEVEN), x -> x.photos(-2), -4);
  }

  private void photosEmptyAndFull() {
    edge.of(30, "PHOTOS: a ROW of LOOKS (as many as there are PEOPLE, 99 at most) of photographs");
    edge.is("nobody there", row("").get().photos(-1), 0);
    edge.is("nobody there, 0", row("").get().photos(0), -9);
    edge.is("one there", row("p0000;", 99).get().photos(-1), 99);
    edge.is("one there, 0", row("p0000;", 99).get().photos(0), 0);
    MirrorsOnStrike x = row("p0000;p0000;p0000;p0000;p0000;p0000;p0000;", 99, 99, 99, 99, 99, 99, 99).get();
    edge.is("seven there", x.photos(-1), 693);
    for (int one = 0; one < 7; one++) {
      edge.is("seven there, " + one, x.photos(one), one);
    }
    edge.is("seven there, 7", x.photos(7), -9);
    MirrorsOnStrike y = row("p0000;p0016;p0032;p0048;p0064;p0080;p0096;", 97, 81, 65, 49, 33, 17, 1).get();
    edge.is("seven there, turned", y.photos(-1), 7);
    for (int one = 0; one < 7; one++) {
      edge.is("seven there, turned, " + one, y.photos(one), 6 - one);
    }
  }

  private void photosWhose() {
    edge.of(30, "that (i -1), the i-th one's (-9)");
    for (int there = 0; there <= 7; there++) {
      MirrorsOnStrike x = Edge.nobody();
      for (int one = 0; one < there; one++) {
        x.comes(0, 0, 10);
        x.row(11);
      }
      edge.is("the differences", x.photos(-1), there);
      edge.is("the first one's", x.photos(0), there > 0 ? 0 : -9);
      edge.is("the last one's", x.photos(there - 1), there > 0 ? there - 1 : 0);
      edge.is("behind the last one", x.photos(there), -9);
      edge.is("far behind", x.photos(Edge.MOST), -9);
    }
  }

  private void photosFirstWay() {
    edge.of(30, "the first such way (by PEOPLE): the i-th one's photograph");
    MirrorsOnStrike x = row("p0010;p0020;", 30, 40).get();
    edge.is("as good either way", x.photos(0), 0);
    edge.is("as good either way, the other", x.photos(1), 1);
    MirrorsOnStrike same = row("p0050;p0010;p0050;", 50, 50, 10).get();
    edge.is("two of the same", same.photos(0), 0);
    edge.is("the only one", same.photos(1), 2);
    edge.is("the other of the same", same.photos(2), 1);
  }

  private void photosRowStays() {
    edge.of(30, "PHOTOS by the ROW (it stays)");
    stays((x, what) -> x.photos(what - 1));
    Supplier<MirrorsOnStrike> made = row("p0050;p1040;p0050;", 50, 40, 50);
    MirrorsOnStrike x = made.get();
    x.photos(-1);
    x.photos(2);
    edge.same("nothing is otherwise", x, made.get());
  }

  private void photosEachAnother() {
    edge.of(30, "each of PEOPLE gets another one so that all differences together are least");
    MirrorsOnStrike x = row("p0050;p0050;p0050;", 50, 0, 99).get();
    edge.is("one alone gets the best one", x.photos(-1), 99);
    int all = 0;
    for (int one = 0; one < 3; one++) {
      all += 1 << x.photos(one);
    }
    edge.is("each another one", all, 7);
  }

  // ---- Promise 55

  private void rowValues() {
    edge.of(55, "-4; -6 (99; 12, too).");
    edge.ends("row", Edge::rich, MirrorsOnStrike::row, 0, -4, 99, -6);
    edge.ends("row, none in it", Edge::nobody, MirrorsOnStrike::row, 0, -4, 99, -6);
  }

  private void rowTwelve() {
    edge.of(55, "A ROW of numbers (0 .. 99; 12 at most)");
    MirrorsOnStrike x = Edge.nobody();
    for (int n = 1; n <= 12; n++) {
      edge.is("row", x.row(n % 2 == 0 ? 0 : 99), n);
      edge.is("count(6)", x.count(6), n);
    }
    edge.refused("the 13th", fullRow(""), y -> y.row(0), -6);
    edge.refused("the 13th, seven there", fullRow(Edge.SEVEN), y -> y.row(99), -6);
    edge.is("clear()", x.clear(), 12);
    edge.is("from anew", x.row(7), 1);
  }

  private void rowSeveral() {
    edge.of(55, "the first that fits in the order in which it tells them");
    edge.refused("row(-1), 12 in it", fullRow(""), x -> x.row(-1), -4);
    edge.refused("row(100), 12 in it", fullRow(""), x -> x.row(100), -6);
  }

  // ---- Promises 56 and 57

  private void judgeEmptyAndFull() {
    edge.of(56, "JUDGED: what PEOPLE 0, 1, .. BELIEVE now");
    edge.is("empty, nobody there", row("").get().judge(), -9);
    edge.is("empty, seven there", row(Edge.SEVEN).get().judge(), -9);
    edge.is("all seven", row(Edge.SEVEN, 50, 40, 30, 60, 70, 20, 99).get().judge(), -9);
    edge.is("fewer than there are", row(Edge.SEVEN, 50, 40).get().judge(), -9);
    edge.is("0 and 99", row("p0000;p0099;", 0, 99).get().judge(), -9);
    edge.is("99 stands for itself", row("p0000;p0050;", 0, 99).get().judge(), 1);
    edge.is("the LOOK is not what counts", row("p0050;b051;", 50).get().judge(), 0);
    edge.is("what he believes now counts", row("p0050;b051;", 51).get().judge(), -9);
  }

  private void judgeNoSuchOne() {
    edge.of(56, "the first that is not so (no such one, too); -9");
    edge.is("1 number, nobody there", row("", 0).get().judge(), 0);
    edge.is("12 numbers, nobody there", fullRow("").get().judge(), 0);
    edge.is("2 numbers, one there", row("p0050;", 50, 0).get().judge(), 1);
    edge.is("8 numbers, seven there", row(Edge.SEVEN, 50, 40, 30, 60, 70, 20, 99, 0).get().judge(), 7);
    edge.is("12 numbers, seven there", row(Edge.SEVEN, 50, 40, 30, 60, 70, 20, 99, 0, 0, 0, 0, 0).get().judge(), 7);
    MirrorsOnStrike x = row("p0050;").get();
    x.image();
    x.comes(0, 0, 0);
    x.restore();
    x.row(50);
    x.row(0);
    edge.is("one who is there no more", x.judge(), 1);
  }

  private void judgeFirst() {
    edge.of(56, "the first that is not so");
    int[] believed = {50, 40, 30, 60, 70, 20, 99};
    for (int wrong = 0; wrong < 7; wrong++) {
      for (int by : new int[] {-1, 1}) {
        int[] values = believed.clone();
        values[wrong] = wrong == 6 ? 98 : values[wrong] + by;
        edge.is("wrong is " + wrong, row(Edge.SEVEN, values).get().judge(), wrong);
        values[6] = 0;
        edge.is("wrong are " + wrong + " and 6", row(Edge.SEVEN, values).get().judge(), wrong);
      }
    }
  }

  private void judgeLeavesNone() {
    edge.of(56, "-9 (whichever it answers, the ROW has none then)");
    for (int first : new int[] {50, 51}) {
      MirrorsOnStrike x = row("p0050;", first).get();
      x.judge();
      edge.is("in the ROW", x.count(6), 0);
      edge.is("judge() again", x.judge(), -9);
      edge.is("the next", x.row(0), 1);
    }
    MirrorsOnStrike full = fullRow("").get();
    full.judge();
    edge.is("in the ROW of 12", full.count(6), 0);
    edge.is("REFUSALS", Check.refusalsOf(full), 0);
  }

  private void clearFewAndMany() {
    edge.of(57, "The ROW has none then: how many it had.");
    MirrorsOnStrike x = Edge.nobody();
    edge.is("clear(), none in it", x.clear(), 0);
    for (int many = 1; many <= 12; many++) {
      for (int n = 0; n < many; n++) {
        x.row(n);
      }
      edge.is("clear()", x.clear(), many);
      edge.is("count(6)", x.count(6), 0);
    }
    edge.is("clear() again", x.clear(), 0);
    edge.is("judge()", x.judge(), -9);
  }

  // ---- Promise 58

  private void lotsTimes() {
    edge.of(58, "-4; -6 20; -2.");
    edge.ends("lots(.., 5, 0)", Edge::rich, (x, n) -> x.lots(n, 5, 0), 1, -4, 20, -6);
    edge.ends("lots(.., 5, 1), nobody there", Edge::nobody, (x, n) -> x.lots(n, 5, 1), 1, -4, 20, -6);
  }

  private void lotsWhat() {
    edge.of(58, "LOTS: ERROR (what 0), how often (1). -4; -6 20; -2.");
    edge.ends("lots(3, 5, ..)", Edge::rich, (x, what) -> x.lots(3, 5, what), 0, -2, 1, -2);
  }

  private void lotsSeveral() {
    edge.of(58, "the first that fits in the order in which it tells them");
    edge.refused("lots(0, 0, 2)", Edge::rich, x -> x.lots(0, 0, 2), -4);
    edge.refused("lots(21, 0, -1)", Edge::rich, x -> x.lots(21, 0, -1), -6);
  }

  /** The same by asks(), error() and fooled(): whom each asks by the draws, and 10 WEEKS in mind. */
  private int[] byHand(String town, int n, int seed) {
    long z = Math.floorMod((long) seed, ALL_SEEDS);
    int error = 0;
    int often = 0;
    for (int time = 0; time < n; time++) {
      MirrorsOnStrike x = Check.told(town);
      int many = x.count(0);
      for (int one = 0; one < many; one++) {
        z = (z * 1103515245 + 12345) % ALL_SEEDS;
        long draw = z % (ALL_SEEDS / 2) / 65536 % 128;
        for (int other = 0; other < many; other++) {
          boolean asks = (x.person(one, 4) >> other & 1) == 1;
          boolean drawn = (draw >> other & 1) == 1;
          if (one != other && asks != drawn) {
            x.asks(one, other);
          }
        }
      }
      error += x.error(10);
      often += x.fooled(10, 5) == 0 ? 1 : 0;
    }
    return new int[] {error, often};
  }

  private void lotsSeeds() {
    edge.of(58, "DRAWS: z becomes z times 1103515245 plus 12345 (an int, wrapping)");
    String[] towns = {"p0050;p0020;b010;b190;", "p4199;p4199;p3940;b002;", "p0350;p1440;p2530;p3460;p4270;p5020;p0099;a01;b045;b198;"};
    for (String town : towns) {
      for (int z : new int[] {0, 1, -1, 7, 12345, 65535, 65536, Edge.MOST, Edge.LEAST, Edge.LEAST + 1}) {
        for (int n : new int[] {1, 2, 20}) {
          int[] due = byHand(town, n, z);
          MirrorsOnStrike x = Check.told(town);
          edge.is(town + " lots(" + n + ", " + z + ", 0)", x.lots(n, z, 0), due[0]);
          edge.is(town + " lots(" + n + ", " + z + ", 1)", x.lots(n, z, 1), due[1]);
        }
      }
    }
  }

  /** The sign of a seed goes into no other bit of the next ones, and into no draw. */
  private void lotsWithoutSign() {
    edge.of(58, "a DRAW below n is (z without its sign's bit, over 65536, cut) modulo n");
    String town = "p0350;p1440;p2530;p3460;p4270;p5020;p0099;a01;b045;b198;";
    for (int z : new int[] {0, 1, 99, 65535, 65536, 1234567890, Edge.MOST}) {
      for (int n : new int[] {1, 20}) {
        int due = byHand(town, n, z)[0];
        edge.is("lots(" + n + ", " + z + ", 0)", Check.told(town).lots(n, z, 0), due);
        edge.is("lots(" + n + ", with a sign, 0)", Check.told(town).lots(n, z ^ Edge.LEAST, 0), due);
      }
    }
  }

  private void lotsHimselfAside() {
    edge.of(58, "ASKS of each (by numbers) a DRAW below 128, himself and those not there aside");
    for (int z = -50; z < 50; z++) {
      edge.is("nobody there", Edge.nobody().lots(20, z, 0), 0);
      edge.is("nobody there, how often", Edge.nobody().lots(20, z, 1), 20);
      edge.is("one there", Check.told("p0050;b090;").lots(20, z, 0), 800);
      edge.is("one there, how often", Check.told("p0050;b090;").lots(20, z, 1), 0);
    }
  }

  private void lotsMoreThanFive() {
    edge.of(58, "how often nobody is FOOLED by more than 5");
    edge.is("by 5", Check.told("p0050;b055;").lots(20, 0, 1), 20);
    edge.is("by 5 less", Check.told("p0050;b045;").lots(20, 0, 1), 20);
    edge.is("by 6", Check.told("p0050;b056;").lots(20, 0, 1), 0);
    edge.is("by 6 less", Check.told("p0050;b044;").lots(20, 0, 1), 0);
    edge.is("once", Check.told("p0050;b055;").lots(1, 0, 1), 1);
  }

  private void lotsInMind() {
    edge.of(58, "then 10 WEEKS from now");
    Supplier<MirrorsOnStrike> made = Edge::rich;
    MirrorsOnStrike x = made.get();
    x.lots(20, 3, 0);
    x.lots(20, 3, 1);
    edge.same("nothing is otherwise", x, made.get());
  }
}
