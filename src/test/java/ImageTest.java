/** Promises 59 to 61: the image, and what is counted. */
public final class ImageTest {
  private static final Check check = new Check();

  public static void main(String[] args) {
    imageAndRestore();
    imageStays();
    imageHoldsNothingElse();
    count();
    check.end("ImageTest");
  }

  private static void imageAndRestore() {
    MirrorsOnStrike x = Check.told("p0350;p1440;a01;b099;w01;g02;n7;");
    x.believes(1, 13);
    check.is("image", x.image(), 7);
    x.comes(0, 0, 5);
    x.asks(1, 0);
    x.asks(0, 1);
    x.believes(0, 1);
    x.kind(1, 4, 9);
    x.way(0, 1);
    x.way(5, 6);
    x.hangs(0, 0);
    x.hangs(6, 3);
    x.week();
    check.is("restored", x.restore(), 7);
    check.is("people", x.count(0), 2);
    check.is("weeks", x.count(1), 7);
    check.is("asks", x.person(0, 4), 2);
    check.is("asks nobody", x.person(1, 4), 0);
    check.is("belief", x.person(0, 3), 54);
    check.is("belief", x.person(1, 3), 13);
    check.is("kind", x.person(1, 0), 1);
    check.is("figure", x.person(1, 1), 4);
    check.is("ways", x.count(4), 1);
    check.is("way", x.steps(1, 0), 1);
    check.is("pond", x.glances(0, 0, 0), 3);
    check.is("no glass", x.glances(6, 6, 0), 0);
    check.is("comes anew", x.comes(2, 2, 22), 2);
    check.is("asks nobody at first", x.person(2, 4), 0);
  }

  private static void imageStays() {
    MirrorsOnStrike x = new MirrorsOnStrike();
    check.refused("no image", x, x::restore, -3);
    check.is("image of nothing", x.image(), 0);
    x.comes(0, 0, 5);
    x.week();
    check.is("restored", x.restore(), 0);
    check.is("nobody", x.count(0), 0);
    x.comes(0, 0, 6);
    check.is("restored again", x.restore(), 0);
    check.is("nobody again", x.count(0), 0);
    x.comes(0, 0, 7);
    x.week();
    check.is("image anew", x.image(), 1);
    x.week();
    check.is("the new one", x.restore(), 1);
    check.is("one", x.count(0), 1);
  }

  private static void imageHoldsNothingElse() {
    MirrorsOnStrike x = Check.told("p0350;");
    x.row(1);
    x.feed('n');
    x.image();
    x.row(2);
    x.feed('3');
    x.feed(';');
    x.person(9, 0);
    x.believes(0, 1);
    x.restore();
    check.is("row", x.count(6), 2);
    check.is("letters", x.count(5), 3);
    check.is("refusals", x.count(11), 1);
    check.is("nothing to be taken back", x.count(7), 0);
    check.is("town", x.town(), 1);
    check.is("weeks", x.count(1), 3);
  }

  private static void count() {
    MirrorsOnStrike x = Check.told("p0350;p1440;b099;w01;w12;w70;n2;");
    x.believes(1, 7);
    x.feed(0);
    x.row(0);
    x.row(0);
    int[] due = {2, 2, 90, 106, 3, 1, 2, 1};
    for (int what = 0; what < due.length; what++) {
      check.is("count(" + what + ")", x.count(what), due[what]);
    }
    int[] others = {-1, 8, 9, 10, 17, Integer.MIN_VALUE, Integer.MAX_VALUE};
    for (int what : others) {
      check.is("count(" + what + ")", x.count(what), -9);
    }
    x.person(0, 7);
    x.hangs(0, 7);
    check.is("-1", x.count(11), 0);
    check.is("-2", x.count(12), 2);
    check.is("-5", x.count(15), 0);
    check.is("no refusal of count", Check.refusalsOf(x), 2);
  }
}
