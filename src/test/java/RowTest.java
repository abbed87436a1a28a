/** Promises 28 to 30 and 55 to 58: the row of numbers, and weeks by lot. */
public final class RowTest {
  private static final String SEVEN = "p0350;p1440;p2530;p3460;p4270;p5020;p0099;";
  private static final Check check = new Check();

  public static void main(String[] args) {
    row();
    judge();
    thief();
    thiefRefuses();
    tellsMost();
    photos();
    photosRefuses();
    lots();
    check.end("RowTest");
  }

  private static void row() {
    MirrorsOnStrike x = new MirrorsOnStrike();
    check.refused("below", x, () -> x.row(-1), -4);
    check.refused("above", x, () -> x.row(100), -6);
    for (int n = 1; n <= 12; n++) {
      check.is("row", x.row(n == 1 ? 0 : 99), n);
    }
    check.refused("thirteenth", x, () -> x.row(5), -6);
    check.refused("thirteenth below", x, () -> x.row(-1), -4);
    check.is("in the row", x.count(6), 12);
    check.is("clear", x.clear(), 12);
    check.is("clear again", x.clear(), 0);
    check.is("in the row", x.count(6), 0);
    check.is("from anew", x.row(7), 1);
  }

  private static void judge() {
    MirrorsOnStrike x = Check.told("p0050;p1440;b041;");
    check.is("nothing told", x.judge(), -9);
    judged(x, -9, 41);
    judged(x, -9, 41, 40);
    judged(x, 0, 50, 40);
    judged(x, 1, 41, 99);
    judged(x, 2, 41, 40, 0);
    judged(x, 0, 99);
    check.is("no refusals", Check.refusalsOf(x), 0);
  }

  private static void judged(MirrorsOnStrike x, int due, int... values) {
    Check.rowOf(x, values);
    check.is("judge", x.judge(), due);
    check.is("the row has none then", x.count(6), 0);
  }

  private static void thief() {
    MirrorsOnStrike x = Check.told(SEVEN);
    thieves(x, 100, 0, 127);
    thieves(x, 1, 50, 1, 50);
    thieves(x, 100, 0, 127, 99);
    thieves(x, 11, 0, 0, 99, 99, 0);
    thieves(x, 1, 40, 2, 99, 44);
    thieves(x, 0, -9, 0, 50, 53);
    thieves(x, 2, 50, 1, 99, 99, 99, 57);
    thieves(x, 100, 0, 127, 99, 99, 99, 99, 66);
    thieves(x, 0, -9, 0, 99, 99, 99, 99, 65);
    thieves(x, 1, 99, 64, 99, 99, 89, 99, 99, 0, 99);
    x.kind(2, 2, 0);
    thieves(x, 1, 30, 4, 30, 34, 30);
  }

  private static void thieves(MirrorsOnStrike x, int many, int least, int who, int... values) {
    Check.rowOf(x, values);
    check.is("thief: many", x.thief(0), many);
    check.is("thief: least", x.thief(1), least);
    check.is("thief: who", x.thief(2), who);
    check.is("the row stays", x.count(6), values.length);
  }

  private static void thiefRefuses() {
    MirrorsOnStrike x = Check.told("p0050;");
    check.refused("what", x, () -> x.thief(3), -2);
    Check.rowOf(x, 99, 99);
    check.refused("what ahead of the row", x, () -> x.thief(-1), -2);
    check.refused("more than people", x, () -> x.thief(0), -3);
    check.refused("more than people", x, () -> x.thief(2), -3);
    check.refused("tellsMost, what", x, () -> x.tellsMost(2), -2);
    check.refused("tellsMost, what -1", x, () -> x.tellsMost(-1), -2);
    check.refused("tellsMost, more than people", x, () -> x.tellsMost(1), -3);
    MirrorsOnStrike empty = new MirrorsOnStrike();
    check.refused("tellsMost, nobody", empty, () -> empty.tellsMost(0), -3);
    check.is("thief, nobody", empty.thief(0), 100);
  }

  private static void tellsMost() {
    MirrorsOnStrike x = Check.told("p2550;p1440;");
    most(x, 1, 96);
    most(x, 1, 11, 0);
    most(x, 0, 1, 10);
    most(x, -9, -9, 0, 50);
    most(x, 0, 1, 99, 50);
    most(x, 1, 96, 99, 99);
    most(Check.told("p2550;"), 0, 90);
    x.comes(4, 0, 50);
    x.comes(5, 0, 50);
    x.comes(0, 0, 50);
    most(x, 3, 100);
    most(x, 1, 11, 0);
  }

  private static void most(MirrorsOnStrike x, int who, int kinds, int... values) {
    Check.rowOf(x, values);
    check.is("tellsMost: who", x.tellsMost(0), who);
    check.is("tellsMost: kinds", x.tellsMost(1), kinds);
    check.is("the row stays", x.count(6), values.length);
  }

  private static void photos() {
    photographed("p0010;p0050;", 0, new int[] {1, 0}, 50, 10);
    photographed("p0010;p0020;", 40, new int[] {0, 1}, 30, 40);
    photographed("p0010;p0020;", 40, new int[] {0, 1}, 40, 30);
    photographed("p0020;p0000;", 48, new int[] {1, 0}, 18, 50);
    photographed("p0030;p0010;p0020;", 3, new int[] {2, 1, 0}, 21, 11, 31);
    photographed("p0099;p0000;p0099;", 99, new int[] {0, 1, 2}, 99, 99, 99);
    photographed("p0000;p0010;p0020;p0030;p0040;p0050;p0060;", 7, new int[] {6, 5, 4, 3, 2, 1, 0}, 61, 51, 41, 31, 21, 11, 1);
    photographed("p0010;b090;", 0, new int[] {0}, 10);
    photosOfFewer();
  }

  private static void photosOfFewer() {
    MirrorsOnStrike x = Check.told("p0010;p0050;");
    x.image();
    x.comes(0, 0, 99);
    Check.rowOf(x, 10, 50, 0);
    check.is("three", x.photos(-1), 99);
    x.restore();
    Check.rowOf(x, 50, 11);
    check.is("two again", x.photos(-1), 1);
    check.is("the first one's", x.photos(0), 1);
  }

  private static void photographed(String text, int least, int[] whose, int... values) {
    MirrorsOnStrike x = Check.told(text);
    Check.rowOf(x, values);
    check.is("photos", x.photos(-1), least);
    for (int i = 0; i < whose.length; i++) {
      check.is("photos(" + i + ")", x.photos(i), whose[i]);
    }
    check.is("no such one", x.photos(whose.length), -9);
    check.is("no such one", x.photos(Integer.MAX_VALUE), -9);
    check.is("the row stays", x.count(6), values.length);
  }

  private static void photosRefuses() {
    MirrorsOnStrike x = Check.told("p0010;p0050;");
    Check.rowOf(x, 10);
    check.refused("below -1", x, () -> x.photos(-2), -4);
    check.refused("too few", x, () -> x.photos(-1), -3);
    Check.rowOf(x, 10, 20, 30);
    check.refused("too many", x, () -> x.photos(0), -3);
    MirrorsOnStrike empty = new MirrorsOnStrike();
    check.is("nobody", empty.photos(-1), 0);
    check.is("nobody's", empty.photos(0), -9);
  }

  private static void lots() {
    MirrorsOnStrike x = Check.told("p0050;p0020;b010;b190;");
    int[][] due = {
      {1, 0, 110, 0}, {1, 1, 70, 0}, {3, 7, 220, 1}, {20, 5, 960, 7},
      {20, -1, 1160, 4}, {20, -2147483648, 1000, 4}, {5, 12345, 330, 2},
    };
    for (int[] lot : due) {
      check.is("error by lot " + lot[1], x.lots(lot[0], lot[1], 0), lot[2]);
      check.is("near by lot " + lot[1], x.lots(lot[0], lot[1], 1), lot[3]);
    }
    check.is("asks nobody still", x.person(0, 4), 0);
    check.is("no weeks", x.count(1), 0);
    x.believes(0, 45);
    x.believes(1, 25);
    check.is("by 5 is not more", x.lots(20, 5, 1), 20);
    x.believes(1, 26);
    check.is("by 6 is more", x.lots(1, 0, 1), 0);
    check.is("nobody", new MirrorsOnStrike().lots(20, 3, 1), 20);
    lotsRunTenWeeks();
    check.refused("below", x, () -> x.lots(0, 0, 2), -4);
    check.refused("above", x, () -> x.lots(21, 0, 2), -6);
    check.refused("what", x, () -> x.lots(20, 0, 2), -2);
    check.refused("what -1", x, () -> x.lots(1, 0, -1), -2);
  }

  /** With the seed 7 behind 2 times both ask each other: 10 weeks, each from now, bring both down by 10 steps. */
  private static void lotsRunTenWeeks() {
    MirrorsOnStrike x = Check.told("p4199;p4199;");
    int z = 7;
    int sum = 0;
    for (int time = 0; time < 6; time++) {
      z = z * 1103515245 + 12345;
      boolean first = ((z & 0x7fffffff) >> 16) % 128 / 2 % 2 == 1;
      z = z * 1103515245 + 12345;
      boolean second = ((z & 0x7fffffff) >> 16) % 128 % 2 == 1;
      sum += first && second ? 40 : first || second ? 2 : 0;
      check.is("lots of " + (time + 1), x.lots(time + 1, 7, 0), sum);
    }
  }
}
