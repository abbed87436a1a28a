/** Promises 12 and 59 to 61 at their edges: what can be taken back, the image, what is counted, all calls of an object. */
final class StateEdges {
  private static final int CALLS = 512;
  private final Edge edge;

  StateEdges(Edge edge) {
    this.edge = edge;
  }

  void all() {
    backNone();
    backFewAndMany();
    backOlderNoMore();
    backWhat();
    backComesLeavesNone();
    backWayLeavesNone();
    backHangsLeavesNone();
    backTownLeavesNone();
    backRestoreLeavesNone();
    backWhatElse();
    imageOfNobody();
    imageOfAll();
    imageOnce();
    imageAnew();
    restoreNone();
    restoreAllOfI();
    restoreNothingElse();
    countWhat();
    countLeast();
    countMost();
    countRefusals();
    countManyRefusals();
    lastCall();
  }

  // ---- Promise 12

  private void backNone() {
    edge.of(12, "TAKEN BACK: how many can still be. -3 none.");
    edge.refused("a new object", Edge::nobody, MirrorsOnStrike::back, -3);
    edge.refused("behind a town", Edge::seven, MirrorsOnStrike::back, -3);
    MirrorsOnStrike x = Edge.alone();
    x.week();
    edge.is("the only one", x.back(), 0);
    edge.is("none any more", x.back(), -3);
    edge.is("REFUSALS -3", x.count(13), 1);
  }

  /** BELIEF 1, 2, .. of one whose LOOK is 0, one behind the other. */
  private static MirrorsOnStrike believing(int many) {
    MirrorsOnStrike x = Check.told("p0000;");
    for (int v = 1; v <= many; v++) {
      x.believes(0, v);
    }
    return x;
  }

  private void backFewAndMany() {
    edge.of(12, "can be TAKEN BACK, the latest first, 8 at most");
    for (int many = 0; many <= 12; many++) {
      MirrorsOnStrike x = believing(many);
      int kept = Math.min(8, many);
      edge.is("can be taken back", x.count(7), kept);
      for (int left = kept - 1; left >= 0; left--) {
        edge.is("back()", x.back(), left);
        edge.is("BELIEF", x.person(0, 3), many - kept + left);
      }
    }
  }

  private void backOlderNoMore() {
    edge.of(12, "8 at most (older ones no more");
    for (int m = 8; m <= 20; m += 4) {
      int many = m;
      edge.refused("the ninth of " + many, () -> {
        MirrorsOnStrike x = believing(many);
        for (int n = 0; n < 8; n++) {
          x.back();
        }
        return x;
      }, MirrorsOnStrike::back, -3);
    }
    MirrorsOnStrike x = believing(8);
    x.back();
    x.believes(0, 50);
    x.believes(0, 51);
    edge.is("can be taken back", x.count(7), 8);
    edge.is("back()", x.back(), 7);
    edge.is("BELIEF", x.person(0, 3), 50);
  }

  private void backWhat() {
    edge.of(12, "What asks(), believes(), kind() changed, and WEEKS by week(), can be TAKEN BACK, the latest first");
    MirrorsOnStrike x = Check.told("p0050;p1440;p4000;a20;");
    x.asks(0, 1);
    x.kind(1, 5, 9);
    x.believes(2, 99);
    x.week();
    edge.is("WEEKS", x.count(1), 1);
    edge.is("BELIEF of 0", x.person(0, 3), 49);
    edge.is("BELIEF of 2", x.person(2, 3), 0);
    edge.is("week(): back()", x.back(), 3);
    edge.is("WEEKS", x.count(1), 0);
    edge.is("BELIEF of 0", x.person(0, 3), 50);
    edge.is("BELIEF of 2", x.person(2, 3), 99);
    edge.is("believes(): back()", x.back(), 2);
    edge.is("BELIEF of 2", x.person(2, 3), 0);
    edge.is("kind(): back()", x.back(), 1);
    edge.is("KIND", x.person(1, 0), 1);
    edge.is("FIGURE", x.person(1, 1), 4);
    edge.is("asks(): back()", x.back(), 0);
    edge.is("ASKS", x.person(0, 4), 0);
    edge.same("as it was", x, Check.told("p0050;p1440;p4000;a20;"));
  }

  private interface Change {
    int on(MirrorsOnStrike x);
  }

  /** Behind the one call none can be TAKEN BACK, behind the other one, which is refused or a FAULT, as many as before. */
  private void leavesNone(String what, Change well, Change not) {
    MirrorsOnStrike x = Edge.rich();
    x.town();
    x.believes(0, 1);
    x.believes(0, 2);
    int left = not.on(x);
    edge.is(what + ", not well", left < 0 ? 1 : 0, 1);
    edge.is(what + ", not well: can be taken back", x.count(7), 2);
    well.on(x);
    edge.is(what + ": can be taken back", x.count(7), 0);
    edge.is(what + ": back()", x.back(), -3);
    x.believes(0, 3);
    edge.is(what + ": from anew", x.count(7), 1);
  }

  private void backComesLeavesNone() {
    edge.of(12, "comes(), way(), hangs(), a TOWN without FAULT, restore(), where they are not refused, leave none");
    leavesNone("comes", x -> x.comes(0, 0, 0), x -> x.comes(6, 0, 0));
    leavesNone("comes", x -> x.comes(0, 0, 99), x -> x.comes(0, 0, 100));
  }

  private void backWayLeavesNone() {
    edge.of(12, "way(), hangs(), a TOWN without FAULT");
    leavesNone("way", x -> x.way(4, 7), x -> x.way(4, 8));
    leavesNone("way, none any more", x -> x.way(0, 1), x -> x.way(1, 1));
  }

  private void backHangsLeavesNone() {
    edge.of(12, "hangs(), a TOWN without FAULT, restore()");
    leavesNone("hangs", x -> x.hangs(0, 3), x -> x.hangs(0, 4));
    leavesNone("hangs, what is there", x -> x.hangs(7, 0), x -> x.hangs(8, 0));
  }

  private void backTownLeavesNone() {
    edge.of(12, "a TOWN without FAULT");
    leavesNone("town", x -> Check.tell(x, "n0;"), x -> Check.tell(x, "n0;a00;"));
    leavesNone("town, a way", x -> Check.tell(x, "w45;"), x -> Check.tell(x, "w45"));
    leavesNone("town, nothing told", x -> Check.tell(x, "b000;"), MirrorsOnStrike::town);
  }

  private void backRestoreLeavesNone() {
    edge.of(12, "restore(), where they are not refused, leave none");
    MirrorsOnStrike x = Edge.alone();
    x.believes(0, 7);
    edge.is("restore(), no image", x.restore(), -3);
    edge.is("can be taken back", x.count(7), 1);
    x.image();
    edge.is("can be taken back behind image()", x.count(7), 1);
    edge.is("restore()", x.restore(), 0);
    edge.is("can be taken back", x.count(7), 0);
  }

  private void backWhatElse() {
    edge.of(12, "-3 none.");
    MirrorsOnStrike x = believing(3);
    x.believes(0, 100);
    x.believes(1, 0);
    x.asks(0, 0);
    x.kind(0, 6, 0);
    x.kind(0, 0, 10);
    x.feed('x');
    x.town();
    x.row(5);
    x.judge();
    x.clear();
    x.image();
    x.lots(20, 1, 0);
    x.belief(0, 60);
    edge.is("what is refused, and what changes nobody, is not kept", x.count(7), 3);
    edge.is("back()", x.back(), 2);
    edge.is("BELIEF", x.person(0, 3), 2);
  }

  // ---- Promises 59 and 60

  private void imageOfNobody() {
    edge.of(59, "THE IMAGE is taken: WEEKS.");
    MirrorsOnStrike x = Edge.nobody();
    edge.is("image()", x.image(), 0);
    Check.tell(x, Edge.SEVEN);
    Check.tell(x, "w01;g03;n9;");
    edge.is("restore()", x.restore(), 0);
    MirrorsOnStrike twin = Edge.nobody();
    twin.image();
    edge.same("nobody there again", x, twin);
  }

  private void imageOfAll() {
    edge.of(59, "THE IMAGE: all that there is of I");
    MirrorsOnStrike x = Edge.weeksMore(Edge.alone(), 999);
    edge.is("image()", x.image(), 999);
    x.comes(1, 1, 1);
    edge.is("restore()", x.restore(), 999);
    edge.is("PEOPLE", x.count(0), 1);
    edge.is("week()", x.week(), -6);
    MirrorsOnStrike seven = Edge.seven();
    edge.is("image(), seven there", seven.image(), 0);
    seven.week();
    edge.is("restore(), seven there", seven.restore(), 0);
    edge.is("PEOPLE", seven.count(0), 7);
    edge.is("comes()", seven.comes(0, 0, 0), -6);
  }

  private void imageOnce() {
    edge.of(60, "It is RESTORED: WEEKS.");
    MirrorsOnStrike x = Edge.rich();
    MirrorsOnStrike twin = Edge.rich();
    twin.restore();
    for (int time = 0; time < 3; time++) {
      edge.is("restore()", x.restore(), 5);
      Check.tell(x, "n3;");
      x.comes(0, 0, 0);
    }
    x.restore();
    Edge.feed(x, "n2;");
    edge.same("restored again and again", x, twin);
  }

  private void imageAnew() {
    edge.of(59, "THE IMAGE is taken");
    MirrorsOnStrike x = Edge.alone();
    x.image();
    x.believes(0, 1);
    x.week();
    edge.is("image()", x.image(), 1);
    x.believes(0, 2);
    edge.is("restore()", x.restore(), 1);
    edge.is("BELIEF", x.person(0, 3), 1);
    edge.is("image() of the same", x.image(), 1);
    edge.is("restore()", x.restore(), 1);
    edge.is("BELIEF", x.person(0, 3), 1);
  }

  private void restoreNone() {
    edge.of(60, "-3 there is none.");
    edge.refused("a new object", Edge::nobody, MirrorsOnStrike::restore, -3);
    edge.refused("seven there", Edge::seven, MirrorsOnStrike::restore, -3);
    edge.refused("what can be taken back stays", () -> believing(2), MirrorsOnStrike::restore, -3);
  }

  private void restoreAllOfI() {
    edge.of(60, "THE IMAGE: all that there is of I");
    MirrorsOnStrike x = Edge.rich();
    x.town();
    x.image();
    x.kind(0, 5, 9);
    x.believes(1, 99);
    x.asks(0, 4);
    x.week();
    x.comes(1, 1, 1);
    x.asks(5, 0);
    x.way(0, 7);
    x.way(0, 1);
    x.hangs(1, 0);
    x.hangs(7, 3);
    edge.is("restore()", x.restore(), 8);
    MirrorsOnStrike twin = Edge.rich();
    twin.town();
    twin.image();
    edge.same("all as it was", x, twin);
  }

  private void restoreNothingElse() {
    edge.of(60, "but it, letters, the ROW, REFUSALS");
    MirrorsOnStrike x = Edge.alone();
    x.row(1);
    Edge.feed(x, "n");
    x.hangs(-1, 0);
    x.hangs(0, -1);
    x.image();
    edge.is("REFUSALS -1 behind image()", x.count(11), 1);
    edge.is("in the ROW behind image()", x.count(6), 1);
    edge.is("letters behind image()", x.count(5), 1);
    x.row(50);
    Edge.feed(x, "7;");
    x.hangs(8, 0);
    x.hangs(0, 4);
    x.restore();
    edge.is("in the ROW", x.count(6), 2);
    edge.is("letters", x.count(5), 3);
    edge.is("REFUSALS -1", x.count(11), 2);
    edge.is("REFUSALS -2", x.count(12), 2);
    edge.is("judge()", x.judge(), 0);
    edge.is("town()", x.town(), 1);
    edge.is("WEEKS", x.count(1), 7);
    edge.is("restore() again", x.restore(), 0);
  }

  // ---- Promise 61

  private void countWhat() {
    edge.of(61, "-9 for another what.");
    MirrorsOnStrike x = Edge.rich();
    for (int what : new int[] {Edge.LEAST, -11, -1, 8, 9, 10, 17, 18, 100, Edge.MOST}) {
      edge.is("count(" + what + ")", x.count(what), -9);
    }
    edge.is("no REFUSAL", Check.refusalsOf(x), 0);
    for (int what = 0; what <= 7; what++) {
      edge.is("count(" + what + ") is told", x.count(what) >= 0 ? 1 : 0, 1);
    }
    for (int what = 11; what <= 16; what++) {
      edge.is("count(" + what + ")", x.count(what), 0);
    }
  }

  private void countLeast() {
    edge.of(61, "0 PEOPLE, 1 WEEKS, 2 all LOOKS, 3 all BELIEFS, 4 WAYS, 5 letters, 6 in the ROW, 7 what can be TAKEN BACK");
    for (int what = 0; what <= 7; what++) {
      edge.is("count(" + what + "), a new object", Edge.nobody().count(what), 0);
    }
    int[] due = {1, 0, 50, 50, 0, 0, 0, 0};
    for (int what = 0; what <= 7; what++) {
      edge.is("count(" + what + "), one there", Edge.alone().count(what), due[what]);
    }
  }

  private void countMost() {
    edge.of(61, "2 all LOOKS, 3 all BELIEFS, 4 WAYS");
    MirrorsOnStrike x = Check.told("p0099;p0099;p0099;p0099;p0099;p0099;p0099;");
    for (int one = 0; one < 8; one++) {
      for (int other = 0; other < one; other++) {
        x.way(one, other);
      }
    }
    Edge.feed(x, "n0;".repeat(32));
    for (int n = 0; n < 12; n++) {
      x.row(n);
    }
    for (int n = 0; n < 9; n++) {
      x.believes(n % 7, n % 7);
    }
    int[] due = {7, 0, 693, 21, 28, 96, 12, 8};
    for (int what = 0; what < due.length; what++) {
      edge.is("count(" + what + ")", x.count(what), due[what]);
    }
    for (int one = 0; one < 7; one++) {
      x.believes(one, 99);
    }
    edge.is("count(3)", x.count(3), 693);
    edge.is("count(1)", Edge.weeksMore(Edge.nobody(), 999).count(1), 999);
  }

  private void countRefusals() {
    edge.of(61, "11 .. 16 REFUSALS -1 .. -6");
    MirrorsOnStrike x = Edge.alone();
    x.person(1, 0);
    x.asks(0, 0);
    x.worth(1, 0);
    x.person(0, 5);
    x.thief(3);
    x.back();
    x.feed(-1);
    x.worth(0, -1);
    x.feed(256);
    x.error(61);
    x.worth(0, 61);
    x.row(100);
    int[] due = {3, 2, 1, 2, 0, 4};
    for (int no = 1; no <= 6; no++) {
      edge.is("count(" + (10 + no) + ")", x.count(10 + no), due[no - 1]);
    }
  }

  private void countManyRefusals() {
    edge.of(61, "nothing changes but how many there were");
    MirrorsOnStrike x = Edge.alone();
    int done = 7;
    while (done < CALLS - 1) {
      x.back();
      done++;
    }
    edge.is("count(13)", x.count(13), CALLS - 1 - 7);
  }

  private void lastCall() {
    edge.of(61, "An object is used for at most 512 calls after it has been made");
    MirrorsOnStrike x = Check.told("p0050;p1440;");
    int done = 13;
    while (done < CALLS - 4) {
      edge.is("asks(0, 1)", x.asks(0, 1), done % 2);
      done++;
    }
    edge.is("the last but 3: count(7)", x.count(7), 8);
    edge.is("the last but 2: week()", x.week(), 1);
    edge.is("the last but 1: person(0, 3)", x.person(0, 3), 54);
    edge.is("the last: back()", x.back(), 7);
  }
}
