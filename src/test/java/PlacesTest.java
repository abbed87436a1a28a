/** Promises 32 to 37 and 51 to 53: ways through the town, and the bargain. */
public final class PlacesTest {
  /** A ring 0 1 2 3 4 with a pond at 1, glasses at 2 and 4; 5, 6 and 7 lie apart. */
  private static final String RING = "w01;w12;w23;w34;w40;g12;g23;g43;";
  private static final String LINE = "w01;w12;w23;w34;w45;w56;w67;";
  private static final String STAR = "w01;w02;w03;w04;w05;w06;w07;";
  private static final Check check = new Check();

  public static void main(String[] args) {
    steps();
    glances();
    unseen();
    cover();
    bargain();
    strike();
    tour();
    narrows();
    middle();
    check.end("PlacesTest");
  }

  private static void steps() {
    MirrorsOnStrike x = Check.told(RING);
    check.is("itself", x.steps(2, 2), 0);
    check.is("2", x.steps(0, 3), 2);
    check.is("2 back", x.steps(3, 0), 2);
    check.is("none", x.steps(0, 5), -9);
    check.is("line", Check.told(LINE).steps(0, 7), 7);
    check.is("line back", Check.told(LINE).steps(7, 0), 7);
    check.refused("from 8", x, () -> x.steps(8, 0), -1);
    check.refused("to 8", x, () -> x.steps(0, 8), -1);
    check.refused("from -1", x, () -> x.steps(-1, 0), -1);
    check.refused("to -1", x, () -> x.steps(0, -1), -1);
  }

  private static void glances() {
    MirrorsOnStrike x = Check.told(RING);
    check.is("by 4", x.glances(0, 3, 0), 7);
    check.is("steps", x.glances(0, 3, 1), 2);
    check.is("itself", x.glances(1, 1, 0), 3);
    check.is("no step", x.glances(1, 1, 1), 0);
    check.is("first and last", x.glances(1, 4, 0), 10);
    check.is("none", x.glances(0, 5, 0), -9);
    check.is("none", x.glances(0, 5, 1), -9);
    x.hangs(2, 1);
    check.is("by 1 and 2", x.glances(0, 3, 0), 4);
    check.is("more steps", x.glances(0, 3, 1), 3);
    x.hangs(4, 2);
    x.hangs(1, 0);
    x.hangs(2, 2);
    check.is("as many", x.glances(0, 3, 0), 3);
    check.is("fewer steps", x.glances(0, 3, 1), 2);
    check.is("line", Check.told(LINE).glances(7, 0, 1), 7);
    MirrorsOnStrike all = Check.told(LINE, "g03;g13;g23;g33;g43;g53;g63;g73;");
    check.is("all glasses", all.glances(0, 7, 0), 56);
    check.is("all steps", all.glances(0, 7, 1), 7);
    check.refused("from 8", x, () -> x.glances(8, 0, 2), -1);
    check.refused("to -1", x, () -> x.glances(0, -1, 2), -1);
    check.refused("what", x, () -> x.glances(0, 0, 2), -2);
    check.refused("what -1", x, () -> x.glances(0, 0, -1), -2);
  }

  private static void unseen() {
    MirrorsOnStrike x = Check.told(RING);
    check.is("from 0", x.unseen(0), 1);
    check.is("from 4", x.unseen(4), 25);
    check.is("from 1", x.unseen(1), 3);
    check.is("from 7", x.unseen(7), 128);
    x.hangs(1, 1);
    check.is("a spoon is a glance", x.unseen(0), 1);
    check.is("line", Check.told(LINE).unseen(7), 255);
    check.is("a spoon at 0", Check.told(LINE, "g01;").unseen(7), 254);
    check.refused("8", x, () -> x.unseen(8), -1);
    check.refused("-1", x, () -> x.unseen(-1), -1);
  }

  private static void cover() {
    MirrorsOnStrike x = Check.told(RING);
    check.is("4", x.cover(0, 3), 4);
    check.is("still there", x.glances(4, 4, 0), 7);
    check.is("no way", x.cover(0, 5), -9);
    check.is("itself", x.cover(1, 1), 1);
    check.is("nothing to cover", x.cover(0, 0), -9);
    check.is("4 for nothing, 1 and 2 for 3", x.cover(3, 0), 4);
    x.hangs(3, 3);
    x.hangs(0, 3);
    check.is("of several the least", x.cover(0, 3), 0);
    x.hangs(0, 2);
    check.is("more counts more", x.cover(0, 3), 3);
    MirrorsOnStrike way = Check.told("w01;w12;w23;w04;w43;g13;g41;");
    check.is("the other way", way.cover(0, 3), 1);
    check.is("other way would be free", way.glances(0, 3, 0), 1);
    check.refused("from 8", x, () -> x.cover(8, 0), -1);
    check.refused("to -1", x, () -> x.cover(0, -1), -1);
  }

  private static void bargain() {
    MirrorsOnStrike x = new MirrorsOnStrike();
    int[] due = {0, 100, 10, 90, 20, 80, 30, 70, 40, 60, 50, 50, 50, 50};
    for (int w = 1; w < due.length; w++) {
      check.is("bargain(" + w + ", 10)", x.bargain(w, 10), due[w]);
    }
    check.is("20, 0", x.bargain(20, 0), 0);
    check.is("19, 0", x.bargain(19, 0), 100);
    check.is("2, 50", x.bargain(2, 50), 50);
    check.is("20, 30", x.bargain(20, 30), 60);
    check.is("20, 50", x.bargain(20, 50), 50);
    check.refused("w below", x, () -> x.bargain(0, 51), -4);
    check.refused("c below", x, () -> x.bargain(21, -1), -4);
    check.refused("w above", x, () -> x.bargain(21, 0), -6);
    check.refused("c above", x, () -> x.bargain(1, 51), -6);
  }

  private static void strike() {
    MirrorsOnStrike x = new MirrorsOnStrike();
    for (int c = 0; c <= 50; c++) {
      check.is("strike(" + c + ")", x.strike(c), 1);
    }
    check.refused("below", x, () -> x.strike(-1), -4);
    check.refused("above", x, () -> x.strike(51), -6);
  }

  private static void tour() {
    MirrorsOnStrike x = Check.told(STAR);
    check.is("there already", x.tour(3, 8), 0);
    check.is("no place", x.tour(3, 0), 0);
    check.is("three leaves", x.tour(0, 14), 5);
    check.is("two from a leaf", x.tour(1, 12), 4);
    check.is("all from a leaf", x.tour(1, 255), 12);
    check.is("all from the middle", x.tour(0, 255), 13);
    check.is("line", Check.told(LINE).tour(3, 255), 10);
    check.is("line from its end", Check.told(LINE).tour(7, 1), 7);
    check.is("ring", Check.told(RING).tour(0, 31), 4);
    check.is("ring, apart", Check.told(RING).tour(0, 32), -9);
    check.is("ring, one apart", Check.told(RING).tour(0, 159), -9);
    check.refused("place 8", x, () -> x.tour(8, -1), -1);
    check.refused("place -1", x, () -> x.tour(-1, 0), -1);
    check.refused("below", x, () -> x.tour(0, -1), -4);
    check.refused("above", x, () -> x.tour(0, 256), -6);
  }

  private static void narrows() {
    MirrorsOnStrike x = Check.told(RING);
    check.is("ring", x.narrows(0, 3), 0);
    check.is("none", x.narrows(0, 5), -9);
    check.is("side by side", x.narrows(0, 1), 0);
    x.way(3, 7);
    x.way(7, 6);
    check.is("two behind a ring", x.narrows(0, 6), 136);
    check.is("line", Check.told(LINE).narrows(7, 0), 126);
    check.is("star", Check.told(STAR).narrows(7, 6), 1);
    check.refused("one twice", x, () -> x.narrows(3, 3), -1);
    check.refused("8", x, () -> x.narrows(8, 3), -1);
    check.refused("-1", x, () -> x.narrows(3, -1), -1);
  }

  private static void middle() {
    MirrorsOnStrike x = Check.told("w01;w12;w23;w34;w56;");
    middleIs(x, 0, 2, 2);
    middleIs(x, 4, 2, 2);
    middleIs(x, 6, 5, 1);
    middleIs(x, 7, 7, 0);
    x.way(3, 4);
    middleIs(x, 3, 1, 2);
    middleIs(Check.told(LINE), 7, 3, 4);
    middleIs(Check.told(STAR), 7, 0, 1);
    middleIs(Check.told("w67;w65;w64;"), 4, 6, 1);
    check.refused("8", x, () -> x.middle(8, 2), -1);
    check.refused("-1", x, () -> x.middle(-1, 0), -1);
    check.refused("what", x, () -> x.middle(0, 2), -2);
    check.refused("what -1", x, () -> x.middle(0, -1), -2);
  }

  private static void middleIs(MirrorsOnStrike x, int from, int place, int far) {
    check.is("middle from " + from, x.middle(from, 0), place);
    check.is("how far from " + from, x.middle(from, 1), far);
  }
}
