/** Promises 1 to 14: people, places and weeks as they come, are told, change and are taken back. */
public final class PeopleTest {
  private static final String SEVEN = "p0350;p1440;p2530;p3460;p4270;p5020;p0099;";
  private static final Check check = new Check();

  public static void main(String[] args) {
    newObject();
    feed();
    townComes();
    faultsOfForm();
    faultsOfSense();
    townWholeOrNot();
    person();
    comes();
    asks();
    believes();
    kind();
    wayAndHangs();
    week();
    back();
    backKeepsEight();
    whatLeavesNone();
    says();
    saysOf();
    check.end("PeopleTest");
  }

  private static void newObject() {
    MirrorsOnStrike x = new MirrorsOnStrike();
    for (int what = 0; what <= 7; what++) {
      check.is("count(" + what + ")", x.count(what), 0);
    }
    check.is("refusals", Check.refusalsOf(x), 0);
    check.is("steps", x.steps(0, 7), -9);
    check.is("glances", x.glances(5, 5, 0), 0);
    check.refused("restore", x, x::restore, -3);
  }

  private static void feed() {
    MirrorsOnStrike x = new MirrorsOnStrike();
    check.refused("feed(-1)", x, () -> x.feed(-1), -4);
    check.refused("feed(256)", x, () -> x.feed(256), -6);
    check.is("feed(0)", x.feed(0), 1);
    check.is("feed(255)", x.feed(255), 2);
    for (int n = 3; n <= 96; n++) {
      check.is("feed", x.feed('p'), n);
    }
    check.refused("feed, full", x, () -> x.feed('p'), -6);
    check.refused("feed(-1), full", x, () -> x.feed(-1), -4);
    check.is("letters", x.count(5), 96);
  }

  private static void townComes() {
    MirrorsOnStrike x = new MirrorsOnStrike();
    check.is("town", Check.tell(x, "p3460;p0950;a01;b199;w37;g32;n2;"), 7);
    check.is("letters", x.count(5), 0);
    check.is("people", x.count(0), 2);
    check.is("kind", x.person(0, 0), 3);
    check.is("figure", x.person(0, 1), 4);
    check.is("look", x.person(0, 2), 60);
    check.is("belief behind weeks", x.person(0, 3), 60);
    check.is("figure 9", x.person(1, 1), 9);
    check.is("look 50", x.person(1, 2), 50);
    check.is("belief told", x.person(1, 3), 99);
    check.is("asks", x.person(0, 4), 2);
    check.is("weeks", x.count(1), 2);
    check.is("ways", x.count(4), 1);
    check.is("steps", x.steps(7, 3), 1);
    check.is("glances", x.glances(3, 7, 0), 3);
    check.is("told again", Check.tell(x, "a01;w73;g30;a10;a10;n0;"), 6);
    check.is("asks no more", x.person(0, 4), 0);
    check.is("asks and no more", x.person(1, 4), 0);
    check.is("no way", x.count(4), 0);
    check.is("nothing there", x.glances(3, 3, 0), 0);
    check.is("n0", x.count(1), 2);
    check.is("96 letters", Check.tell(x, "n0;".repeat(32)), 32);
  }

  private static void faultsOfForm() {
    MirrorsOnStrike x = new MirrorsOnStrike();
    check.is("nothing told", x.town(), -1000);
    check.is("x", Check.tell(x, "x"), -1000);
    check.is("digit first", Check.tell(x, "0"), -1000);
    check.is("no kind", Check.tell(x, "p;"), -1001);
    check.is("look of one digit", Check.tell(x, "p005;"), -1004);
    check.is("look with a letter", Check.tell(x, "p00:0;"), -1003);
    check.is("sign ahead of 0", Check.tell(x, "p00/0;"), -1003);
    check.is("no ;", Check.tell(x, "p0050"), -1005);
    check.is("five digits", Check.tell(x, "p00500;"), -1005);
    check.is("ends in it", Check.tell(x, "p00"), -1003);
    check.is("second statement", Check.tell(x, "p0050;q"), -1006);
    check.is("two ;", Check.tell(x, "p0050;;"), -1006);
    check.is("a of three", Check.tell(x, "a012;"), -1003);
    check.is("b of two", Check.tell(x, "b01;"), -1003);
    check.is("w of one", Check.tell(x, "w0;"), -1002);
    check.is("g of three", Check.tell(x, "g001;"), -1003);
    check.is("n of two", Check.tell(x, "n12;"), -1002);
    check.is("n alone", Check.tell(x, "n"), -1001);
    check.is("form ahead of sense", Check.tell(x, "a00;p9999;x"), -1010);
    check.is("the 96th", Check.tell(x, "n0;".repeat(31) + "n0,"), -1095);
    check.is("the end behind 96", Check.tell(x, "n0;".repeat(30) + "p0000;".substring(0, 5) + "0"), -1095);
    check.is("lacks behind 96", Check.tell(x, "n0;".repeat(31) + "w00"), -1096);
    check.is("no refusals", Check.refusalsOf(x), 0);
    check.is("no letters left", x.count(5), 0);
  }

  private static void faultsOfSense() {
    MirrorsOnStrike x = new MirrorsOnStrike();
    check.is("kind 6", Check.tell(x, "p6050;"), -2000);
    check.is("kind 5", Check.tell(x, "n0;p5050;b200;"), -2009);
    check.is("nobody asks", Check.tell(x, "a01;"), -2000);
    check.is("asks himself", Check.tell(x, "p0050;a00;"), -2006);
    check.is("other not yet there", Check.tell(x, "p0050;a01;p0050;"), -2006);
    check.is("first not there", Check.tell(x, "p0050;p0050;a20;"), -2012);
    check.is("believes nobody", Check.tell(x, "b000;"), -2000);
    check.is("place 8", Check.tell(x, "w78;"), -2000);
    check.is("place 8 first", Check.tell(x, "w80;"), -2000);
    check.is("place twice", Check.tell(x, "w01;w33;"), -2004);
    check.is("thing 4", Check.tell(x, "g04;"), -2000);
    check.is("thing at 8", Check.tell(x, "g80;"), -2000);
    check.is("eighth", Check.tell(x, "p0050;".repeat(8)), -2042);
    check.is("first of two", Check.tell(x, "w01;g09;w99;"), -2004);
    check.is("no refusals", Check.refusalsOf(x), 0);
    tooManyWeeks();
  }

  private static void tooManyWeeks() {
    MirrorsOnStrike x = new MirrorsOnStrike();
    for (int i = 0; i < 3; i++) {
      check.is("288 weeks", Check.tell(x, "n9;".repeat(32)), 32);
    }
    check.is("weeks 991", Check.tell(x, "n9;".repeat(14) + "n1;"), 15);
    check.is("weeks", x.count(1), 991);
    check.is("weeks 1000", Check.tell(x, "n8;n1;"), -2003);
    check.is("weeks 1000 at once", Check.tell(x, "n9;"), -2000);
    check.is("weeks 999", Check.tell(x, "n8;n0;"), 2);
    check.is("weeks", x.count(1), 999);
    check.is("no refusals", Check.refusalsOf(x), 0);
  }

  private static void townWholeOrNot() {
    MirrorsOnStrike x = Check.told("p0350;p1440;");
    x.asks(0, 1);
    check.is("fault", Check.tell(x, "p0099;a12;b011;w01;g01;n3;a77;"), -2026);
    check.is("people", x.count(0), 2);
    check.is("asks", x.person(1, 4), 0);
    check.is("belief", x.person(0, 3), 50);
    check.is("ways", x.count(4), 0);
    check.is("glances", x.glances(0, 0, 0), 0);
    check.is("weeks", x.count(1), 0);
    check.is("letters", x.count(5), 0);
    check.is("can be taken back", x.count(7), 1);
    check.is("goes on", Check.tell(x, "a10;"), 1);
    check.is("can not be taken back", x.count(7), 0);
  }

  private static void person() {
    MirrorsOnStrike x = Check.told("p4270;p0123;a01;b045;");
    int[] due = {4, 2, 70, 45, 2};
    for (int what = 0; what < due.length; what++) {
      check.is("person(0, " + what + ")", x.person(0, what), due[what]);
    }
    check.is("second", x.person(1, 3), 23);
    check.refused("person(2)", x, () -> x.person(2, 0), -1);
    check.refused("person(-1)", x, () -> x.person(-1, 9), -1);
    check.refused("what 5", x, () -> x.person(0, 5), -2);
    check.refused("what -1", x, () -> x.person(0, -1), -2);
  }

  private static void comes() {
    MirrorsOnStrike x = new MirrorsOnStrike();
    check.is("first", x.comes(5, 9, 99), 0);
    check.is("second", x.comes(0, 0, 0), 1);
    check.is("belief", x.person(0, 3), 99);
    check.is("asks", x.person(0, 4), 0);
    check.refused("kind 6", x, () -> x.comes(6, -1, -1), -2);
    check.refused("kind -1", x, () -> x.comes(-1, 0, 0), -2);
    check.refused("figure -1", x, () -> x.comes(0, -1, 100), -4);
    check.refused("look -1", x, () -> x.comes(0, 10, -1), -4);
    check.refused("figure 10", x, () -> x.comes(0, 10, 0), -6);
    check.refused("look 100", x, () -> x.comes(0, 0, 100), -6);
    for (int n = 2; n < 7; n++) {
      check.is("next", x.comes(1, n, n), n);
    }
    check.refused("eighth", x, () -> x.comes(0, 0, 0), -6);
    check.refused("eighth, look -1", x, () -> x.comes(0, 0, -1), -4);
    check.is("people", x.count(0), 7);
  }

  private static void asks() {
    MirrorsOnStrike x = Check.told("p0050;p0050;p0050;");
    check.is("asks", x.asks(2, 0), 1);
    check.is("asks two", x.asks(2, 1), 1);
    check.is("bits", x.person(2, 4), 3);
    check.is("not any more", x.asks(2, 0), 0);
    check.is("bits", x.person(2, 4), 2);
    check.is("other way", x.person(1, 4), 0);
    check.refused("himself", x, () -> x.asks(1, 1), -1);
    check.refused("nobody", x, () -> x.asks(3, 1), -1);
    check.refused("whom", x, () -> x.asks(1, 3), -1);
    check.refused("below", x, () -> x.asks(1, -1), -1);
  }

  private static void believes() {
    MirrorsOnStrike x = Check.told("p0050;");
    check.is("was", x.believes(0, 99), 50);
    check.is("was", x.believes(0, 0), 99);
    check.is("is", x.person(0, 3), 0);
    check.is("look stays", x.person(0, 2), 50);
    check.refused("nobody", x, () -> x.believes(1, -1), -1);
    check.refused("below", x, () -> x.believes(0, -1), -4);
    check.refused("above", x, () -> x.believes(0, 100), -6);
  }

  private static void kind() {
    MirrorsOnStrike x = Check.told("p3950;");
    check.is("was", x.kind(0, 5, 0), 39);
    check.is("was", x.kind(0, 0, 9), 50);
    check.is("kind", x.person(0, 0), 0);
    check.is("figure", x.person(0, 1), 9);
    check.refused("nobody", x, () -> x.kind(1, 9, 9), -1);
    check.refused("kind 6", x, () -> x.kind(0, 6, -1), -2);
    check.refused("kind -1", x, () -> x.kind(0, -1, 0), -2);
    check.refused("figure -1", x, () -> x.kind(0, 0, -1), -4);
    check.refused("figure 10", x, () -> x.kind(0, 0, 10), -6);
  }

  private static void wayAndHangs() {
    MirrorsOnStrike x = new MirrorsOnStrike();
    check.is("way", x.way(0, 7), 1);
    check.is("way", x.way(6, 7), 1);
    check.is("ways", x.count(4), 2);
    check.is("no more", x.way(7, 0), 0);
    check.is("ways", x.count(4), 1);
    check.is("way anew", x.way(0, 7), 1);
    check.is("no more", x.way(0, 7), 0);
    check.is("no more from 0", x.steps(0, 7), -9);
    check.is("no more from 7", x.steps(7, 0), -9);
    check.is("ways", x.count(4), 1);
    check.refused("way twice", x, () -> x.way(3, 3), -1);
    check.refused("way 8", x, () -> x.way(3, 8), -1);
    check.refused("way -1", x, () -> x.way(-1, 3), -1);
    check.is("hangs", x.hangs(7, 3), 0);
    check.is("hangs", x.hangs(7, 1), 3);
    check.is("glances", x.glances(7, 7, 0), 1);
    check.refused("hangs at 8", x, () -> x.hangs(8, 4), -1);
    check.refused("hangs at -1", x, () -> x.hangs(-1, 0), -1);
    check.refused("hangs 4", x, () -> x.hangs(0, 4), -2);
    check.refused("hangs -1", x, () -> x.hangs(0, -1), -2);
  }

  private static void week() {
    MirrorsOnStrike x = Check.told(SEVEN, "a01;a02;a13;a34;");
    check.is("week", x.week(), 3);
    check.is("0", x.person(0, 3), 47);
    check.is("1", x.person(1, 3), 52);
    check.is("3", x.person(3, 3), 66);
    check.is("second week", x.week(), 1);
    check.is("1", x.person(1, 3), 55);
    check.is("third week", x.week(), 0);
    check.is("weeks", x.count(1), 3);
    x.asks(0, 3);
    x.week();
    check.is("mean of 54, 40, 60, cut", x.person(0, 3), 51);
    check.is("town to 996", Check.tell(x, "n9;".repeat(32)), 32);
    Check.tell(x, "n9;".repeat(32));
    Check.tell(x, "n9;".repeat(32));
    Check.tell(x, "n9;".repeat(14) + "n4;");
    check.is("weeks", x.count(1), 998);
    check.is("999th", x.week(), 0);
    check.refused("1000th", x, x::week, -6);
    check.is("weeks", x.count(1), 999);
  }

  private static void back() {
    MirrorsOnStrike x = Check.told("p0050;p1440;");
    check.refused("none", x, x::back, -3);
    x.asks(0, 1);
    x.week();
    x.believes(1, 9);
    x.kind(1, 2, 1);
    check.is("four", x.count(7), 4);
    check.is("kind back", x.back(), 3);
    check.is("kind", x.person(1, 0), 1);
    check.is("figure", x.person(1, 1), 4);
    check.is("belief still", x.person(1, 3), 9);
    check.is("belief back", x.back(), 2);
    check.is("belief", x.person(1, 3), 40);
    check.is("week still", x.person(0, 3), 54);
    check.is("week back", x.back(), 1);
    check.is("believed", x.person(0, 3), 50);
    check.is("weeks", x.count(1), 0);
    check.is("asks still", x.person(0, 4), 2);
    check.is("asks back", x.back(), 0);
    check.is("asks", x.person(0, 4), 0);
    check.refused("none again", x, x::back, -3);
  }

  private static void backKeepsEight() {
    MirrorsOnStrike x = Check.told("p0000;");
    for (int v = 1; v <= 11; v++) {
      x.believes(0, v);
    }
    check.is("eight at most", x.count(7), 8);
    for (int left = 7; left >= 0; left--) {
      check.is("back", x.back(), left);
      check.is("belief", x.person(0, 3), left + 3);
    }
    check.refused("older no more", x, x::back, -3);
    check.is("belief", x.person(0, 3), 3);
  }

  private static void whatLeavesNone() {
    MirrorsOnStrike x = Check.told("p0000;p0000;");
    x.image();
    for (int i = 0; i < 5; i++) {
      x.believes(0, 5);
      leaveNone(x, i, false);
      check.is("refused leaves it, " + i, x.count(7), 1);
      leaveNone(x, i, true);
      check.is("leaves none, " + i, x.count(7), 0);
    }
    x.believes(0, 5);
    x.image();
    x.feed('x');
    x.row(3);
    x.judge();
    check.is("the rest leaves it", x.count(7), 1);
    check.is("belief back", x.back(), 0);
  }

  private static void leaveNone(MirrorsOnStrike x, int i, boolean well) {
    switch (i) {
      case 0 -> x.comes(well ? 0 : 9, 0, 0);
      case 1 -> x.way(0, well ? 1 : 0);
      case 2 -> x.hangs(0, well ? 0 : 4);
      case 3 -> Check.tell(x, well ? "n0;" : "a00;");
      default -> {
        if (well) {
          x.restore();
        }
      }
    }
  }

  private static void says() {
    MirrorsOnStrike x = Check.told(SEVEN);
    int[][] due = {
      {-1, 40, 30, 60, 70, 20, 99},
      {54, -1, 34, 64, 74, 24, 99},
      {40, 30, -1, 50, 60, 10, 89},
      {57, 52, 47, -1, 67, 42, 79},
      {66, 66, 66, 66, -1, 66, 66},
      {49, 59, 69, 39, 29, -1, 0},
      {50, 40, 30, 60, 70, 20, -1},
    };
    for (int one = 0; one < 7; one++) {
      for (int other = 0; other < 7; other++) {
        check.is("says(" + one + ", " + other + ")", x.says(one, other), due[one][other]);
      }
    }
    check.is("refusals", x.count(11), 7);
    check.refused("says(0, 7)", x, () -> x.says(0, 7), -1);
    check.refused("says(-1, 0)", x, () -> x.says(-1, 0), -1);
    x.believes(3, 61);
    check.is("sister, cut", x.says(3, 0), 57);
    x.believes(0, 7);
    check.is("of the look, not the belief", x.says(6, 0), 50);
  }

  private static void saysOf() {
    MirrorsOnStrike x = Check.told(SEVEN);
    check.is("person", x.saysOf(0, 99), 99);
    check.is("flatterer", x.saysOf(1, 95), 99);
    check.is("flatterer, 99 at most", x.saysOf(1, 96), 99);
    check.is("spiteful", x.saysOf(2, 11), 1);
    check.is("spiteful, 0 at least", x.saysOf(2, 9), 0);
    check.is("sister", x.saysOf(3, 1), 32);
    check.is("sister of 99", x.saysOf(3, 99), 79);
    check.is("blind", x.saysOf(4, 0), 66);
    x.believes(4, 3);
    check.is("blind, 0 at least", x.saysOf(4, 99), 0);
    check.is("spoon", x.saysOf(5, 0), 99);
    check.refused("nobody", x, () -> x.saysOf(7, -1), -1);
    check.refused("below", x, () -> x.saysOf(0, -1), -4);
    check.refused("above", x, () -> x.saysOf(0, 100), -6);
  }
}
