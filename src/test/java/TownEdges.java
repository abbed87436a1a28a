/** Promises 2 and 3 at their edges: letters, and the town that they tell. */
final class TownEdges {
  private static final String KINDS = "pabwgn";
  private final Edge edge;

  TownEdges(Edge edge) {
    this.edge = edge;
  }

  void all() {
    letterEnds();
    lettersCounted();
    lettersTooMany();
    lettersSeveral();
    nothingTold();
    oneStatement();
    fullText();
    statementEnds();
    noLettersThen();
    firstLetter();
    digits();
    tooManyDigits();
    lacking();
    lastOfFullText();
    formAheadOfSense();
    firstWrongStatement();
    behindAllAhead();
    kindOutOfRange();
    placeOutOfRange();
    lessThePlace();
    thingOutOfRange();
    noSuchOne();
    oneTwice();
    weeksAbove();
    noRoom();
    digitsAtTheirEnds();
    weeksOfADigit();
    toldAgain();
    askedAgain();
    faultLeavesAll();
    faultOfFormLeavesAll();
    nothingCounted();
  }

  private void town(String text, int due) {
    edge.is("town() of " + text, Check.tell(Edge.nobody(), text), due);
  }

  private void townBehind(String first, String text, int due) {
    edge.is("town() of " + text + " behind " + first, Check.tell(Check.told(first), text), due);
  }

  // ---- Promise 2

  private void letterEnds() {
    edge.of(2, "-4; -6 (255; 96, too).");
    edge.ends("feed", Edge::rich, MirrorsOnStrike::feed, 0, -4, 255, -6);
    edge.ends("feed, none there", Edge::nobody, MirrorsOnStrike::feed, 0, -4, 255, -6);
  }

  private void lettersCounted() {
    edge.of(2, "A letter comes: how many there are.");
    MirrorsOnStrike x = Edge.nobody();
    for (int n = 1; n <= 96; n++) {
      edge.is("feed", x.feed("n0;".charAt((n - 1) % 3)), n);
    }
    edge.is("count(5)", x.count(5), 96);
    edge.is("town()", x.town(), 32);
    edge.is("feed behind it", x.feed(';'), 1);
  }

  private static MirrorsOnStrike fullOfLetters() {
    MirrorsOnStrike x = Edge.nobody();
    Edge.feed(x, "n0;".repeat(31) + "n1;");
    return x;
  }

  private void lettersTooMany() {
    edge.of(2, "A TOWN is told in letters, one by one (96 at most)");
    edge.refused("feed('n'), 96 there", TownEdges::fullOfLetters, x -> x.feed('n'), -6);
    edge.refused("feed(0), 96 there", TownEdges::fullOfLetters, x -> x.feed(0), -6);
    MirrorsOnStrike x = fullOfLetters();
    x.feed('n');
    edge.is("town(), when one was too many", x.town(), 32);
    edge.is("WEEKS", x.count(1), 1);
    edge.is("feed('n') behind it", x.feed('n'), 1);
  }

  private void lettersSeveral() {
    edge.of(2, "the first that fits in the order in which it tells them");
    edge.refused("feed(-1), 96 there", TownEdges::fullOfLetters, x -> x.feed(-1), -4);
    edge.refused("feed(256), 96 there", TownEdges::fullOfLetters, x -> x.feed(256), -6);
  }

  // ---- Promise 3: how many

  private void nothingTold() {
    edge.of(3, "At least one STATEMENT.");
    town("", -1000);
    edge.is("town() of a new object", Edge.nobody().town(), -1000);
    MirrorsOnStrike x = Edge.alone();
    edge.is("town() behind a town", x.town(), -1000);
    edge.same("nothing is otherwise", x, Edge.alone());
  }

  private void oneStatement() {
    edge.of(3, "are a TOWN: how many STATEMENTS");
    town("n0;", 1);
    town("n0;n0;", 2);
    town("p0000;", 1);
    town("w01;", 1);
    town("g00;", 1);
    townBehind("p0000;p0000;", "a01;", 1);
    townBehind("p0000;", "b000;", 1);
  }

  private void fullText() {
    edge.of(3, "A TOWN is told in letters, one by one (96 at most)");
    town("n0;".repeat(32), 32);
    town("w01;".repeat(24), 24);
    town("p5999;".repeat(7) + "b699;".repeat(10) + "a60;", 18);
  }

  private void statementEnds() {
    edge.of(3, "STATEMENTS, each with \";\" behind");
    town("n0", -1002);
    town(";", -1000);
    town("n0;;", -1003);
    town(";n0;", -1000);
    town("n0;n0", -1005);
    town("n0n0;", -1002);
    for (int sign = 0; sign < 256; sign++) {
      town("n0" + (char) sign, sign == ';' ? 1 : -1002);
    }
  }

  private void noLettersThen() {
    edge.of(3, "The letters, which are no more then (with a FAULT neither)");
    for (String text : new String[] {"", "n0;", "x", "n", "a00;", "n0;".repeat(32), "x".repeat(96)}) {
      MirrorsOnStrike x = Edge.nobody();
      Check.tell(x, text);
      edge.is("letters behind " + text, x.count(5), 0);
      edge.is("town() behind " + text, x.town(), -1000);
      edge.is("the next letter behind " + text, x.feed('n'), 1);
    }
  }

  // ---- Promise 3: a fault of kind 1

  private void firstLetter() {
    edge.of(3, "kind 1 the place of the first letter with which no TOWN can go on");
    for (int sign = 0; sign < 256; sign++) {
      boolean goesOn = KINDS.indexOf(sign) >= 0;
      town("" + (char) sign, goesOn ? -1001 : -1000);
      town("n0;" + (char) sign, goesOn ? -1004 : -1003);
    }
  }

  private void digits() {
    edge.of(3, "\"p\" KIND, FIGURE (a digit each), LOOK (2 digits)");
    String[] whole = {"p0000;", "a01;", "b000;", "w01;", "g00;", "n0;"};
    for (String text : whole) {
      for (int place = 1; place < text.length() - 1; place++) {
        for (int sign : new int[] {0, '0' - 1, '9' + 1, ';', 'p', 255}) {
          town(text.substring(0, place) + (char) sign + text.substring(place + 1), -1000 - place);
        }
        for (char sign : "09".toCharArray()) {
          town(text.substring(0, place) + sign, -1000 - place - 1);
        }
      }
    }
  }

  private void tooManyDigits() {
    edge.of(3, "\"b\" one (a digit), BELIEF (2 digits)");
    town("p00000;", -1005);
    town("b0000;", -1004);
    town("a000;", -1003);
    town("w010;", -1003);
    town("g000;", -1003);
    town("n10;", -1002);
  }

  private void lacking() {
    edge.of(3, "(the end, if something lacks)");
    for (String text : new String[] {"p0000;", "a01;", "b000;", "w01;", "g00;", "n0;"}) {
      for (int length = 1; length < text.length(); length++) {
        town(text.substring(0, length), -1000 - length);
        town("n0;" + text.substring(0, length), -1003 - length);
      }
    }
  }

  private void lastOfFullText() {
    edge.of(3, "the first letter with which no TOWN can go on (the end, if something lacks): -1000 less the place");
    town("n0;".repeat(31) + "n0.", -1095);
    town("n0;".repeat(31) + "n;;", -1094);
    town("n0;".repeat(31) + "w01", -1096);
    town("n0;".repeat(31) + "p00", -1096);
    town("x".repeat(96), -1000);
  }

  // ---- Promise 3: a fault of kind 2

  private void formAheadOfSense() {
    edge.of(3, "else kind 2 the place of the first letter of the first STATEMENT");
    town("a00;n0", -1006);
    town("p6000;a00;w88;x", -1014);
    town("a00;", -2000);
    town("a00;n0;", -2000);
  }

  private void firstWrongStatement() {
    edge.of(3, "the first letter of the first STATEMENT that, behind all ahead of it in the text, is not as it must be");
    town("a00;b000;", -2000);
    town("n0;a00;b000;", -2003);
    town("p0000;w01;g33;n0;b100;", -2017);
    town("n0;".repeat(30) + "p6000;", -2090);
    town("n0;".repeat(30) + "n0;n0;", 32);
  }

  private void behindAllAhead() {
    edge.of(3, "behind all ahead of it in the text");
    town("a01;p0000;p0000;", -2000);
    town("p0000;a01;p0000;", -2006);
    town("p0000;p0000;a01;", 3);
    town("b000;p0000;", -2000);
    town("p0000;b000;", 2);
    townBehind("p0000;", "a01;p0000;", -2000);
    townBehind("p0000;", "p0000;a01;a10;b199;", 4);
  }

  private void kindOutOfRange() {
    edge.of(3, "(a number out of range, no such one, one twice, WEEKS above 999, no room)");
    for (int kind = 0; kind <= 9; kind++) {
      town("p" + kind + "999;", kind <= 5 ? 1 : -2000);
    }
  }

  private void placeOutOfRange() {
    edge.of(3, "\"w\" two PLACES (a digit each)");
    for (int place = 0; place <= 9; place++) {
      town("w" + place + (place == 3 ? 4 : 3) + ";", place <= 7 ? 1 : -2000);
      town("w" + (place == 3 ? 4 : 3) + place + ";", place <= 7 ? 1 : -2000);
      town("g" + place + "0;", place <= 7 ? 1 : -2000);
    }
  }

  private void lessThePlace() {
    edge.of(3, "-2000 less the place");
    for (int ahead = 0; ahead < 31; ahead++) {
      town("n0;".repeat(ahead) + "w88;", -2000 - 3 * ahead);
      town("n0;".repeat(ahead) + "w8", -1000 - 3 * ahead - 2);
    }
    town("w88;".repeat(24), -2000);
  }

  private void thingOutOfRange() {
    edge.of(3, "\"g\" a PLACE, what is there (a digit each)");
    int[] glances = {0, 1, 3, 7};
    for (int thing = 0; thing <= 9; thing++) {
      MirrorsOnStrike x = Edge.nobody();
      edge.is("town() of g7" + thing + ";", Check.tell(x, "g7" + thing + ";"), thing <= 3 ? 1 : -2000);
      edge.is("GLANCES", x.glances(7, 7, 0), thing <= 3 ? glances[thing] : 0);
    }
  }

  private void noSuchOne() {
    edge.of(3, "no such one");
    for (int one = 0; one <= 9; one++) {
      townBehind(Edge.SEVEN, "b" + one + "00;", one <= 6 ? 1 : -2000);
      townBehind(Edge.SEVEN, "a" + one + (one == 3 ? 4 : 3) + ";", one <= 6 ? 1 : -2000);
      townBehind(Edge.SEVEN, "a" + (one == 3 ? 4 : 3) + one + ";", one <= 6 ? 1 : -2000);
    }
    town("b000;", -2000);
    town("a01;", -2000);
    townBehind("p0000;", "b100;", -2000);
    townBehind("p0000;", "a01;", -2000);
    townBehind("p0000;", "a10;", -2000);
  }

  private void oneTwice() {
    edge.of(3, "one twice");
    for (int one = 0; one <= 7; one++) {
      town("w" + one + one + ";", -2000);
      townBehind(Edge.SEVEN, "a" + one + one + ";", -2000);
    }
  }

  private void weeksAbove() {
    edge.of(3, "WEEKS above 999");
    MirrorsOnStrike x = Edge.weeksMore(Edge.nobody(), 990);
    edge.is("999 and 1", Check.tell(x, "n9;n1;"), -2003);
    edge.is("WEEKS", x.count(1), 990);
    edge.is("998 and 2", Check.tell(x, "n8;n2;"), -2003);
    edge.is("999", Check.tell(x, "n9;"), 1);
    edge.is("WEEKS", x.count(1), 999);
    edge.is("999 and 0", Check.tell(x, "n0;"), 1);
    edge.is("999 and 1", Check.tell(x, "n1;"), -2000);
    edge.is("999 and 9", Check.tell(x, "n9;"), -2000);
    edge.is("WEEKS", x.count(1), 999);
  }

  private void noRoom() {
    edge.of(3, "no room");
    town("p0000;".repeat(7), 7);
    town("p0000;".repeat(8), -2042);
    townBehind("p0000;".repeat(6), "p0000;", 1);
    townBehind("p0000;".repeat(6), "p0000;p0000;", -2006);
    townBehind(Edge.SEVEN, "p0000;", -2000);
    townBehind(Edge.SEVEN, "n0;p0000;", -2003);
  }

  // ---- Promise 3: what comes

  private void digitsAtTheirEnds() {
    edge.of(3, "\"p\" KIND, FIGURE (a digit each), LOOK (2 digits): one more");
    MirrorsOnStrike x = Check.told("p0000;p5999;p0900;p5099;b199;b000;");
    int[][] due = {{0, 0, 0, 0}, {5, 9, 99, 99}, {0, 9, 0, 0}, {5, 0, 99, 99}};
    for (int one = 0; one < due.length; one++) {
      for (int what = 0; what < 4; what++) {
        edge.is("person(" + one + ", " + what + ")", x.person(one, what), due[one][what]);
      }
    }
    Check.tell(x, "b099;b100;b209;b390;");
    int[] beliefs = {99, 0, 9, 90};
    for (int one = 0; one < beliefs.length; one++) {
      edge.is("BELIEF of " + one, x.person(one, 3), beliefs[one]);
    }
  }

  private void weeksOfADigit() {
    edge.of(3, "\"n\" so many WEEKS (a digit)");
    for (int n = 0; n <= 9; n++) {
      MirrorsOnStrike x = Check.told(Edge.FALL);
      edge.is("town()", Check.tell(x, "n" + n + ";"), 1);
      edge.is("WEEKS", x.count(1), n);
      edge.is("BELIEF of 0", x.person(0, 3), 99 - n - n % 2);
      edge.is("BELIEF of 1", x.person(1, 3), 99 - n + n % 2);
    }
  }

  private void toldAgain() {
    edge.of(3, "\"w\" two PLACES (a digit each): a WAY, or, told again, none");
    MirrorsOnStrike x = Edge.seven();
    for (int due : new int[] {1, 0, 1}) {
      edge.is("town()", Check.tell(x, "a06;w07;"), 2);
      edge.is("ASKS", x.person(0, 4), 64 * due);
      edge.is("WAY", x.steps(7, 0), due == 1 ? 1 : -9);
      edge.is("WAYS", x.count(4), due);
    }
    edge.is("told twice in one text", Check.tell(x, "a06;w70;a06;w70;"), 4);
    edge.is("ASKS", x.person(0, 4), 64);
    edge.is("WAYS", x.count(4), 1);
  }

  private void askedAgain() {
    edge.of(3, "\"a\" two PEOPLE (a digit each): the first ASKS the other, or, told again, not");
    MirrorsOnStrike x = Check.told("p0000;p0000;a01;");
    int[][] due = {{2, 0}, {0, 0}, {0, 1}, {2, 1}, {2, 0}};
    String[] told = {"n0;", "a01;", "a10;", "a01;", "a10;"};
    for (int i = 0; i < told.length; i++) {
      Check.tell(x, told[i]);
      edge.is("ASKS of 0 behind " + told[i], x.person(0, 4), due[i][0]);
      edge.is("ASKS of 1 behind " + told[i], x.person(1, 4), due[i][1]);
    }
  }

  private void faultLeavesAll() {
    edge.of(3, "Without FAULT all of it comes, with one nothing.");
    String well = "p0000;a05;b033;w07;g73;g10;w01;n3;";
    for (String wrong : new String[] {"p6000;", "a00;", "b600;", "w08;", "g04;", "g80;"}) {
      MirrorsOnStrike x = Edge.rich();
      x.town();
      MirrorsOnStrike twin = Edge.rich();
      twin.town();
      edge.is("town() with " + wrong, Check.tell(x, well + wrong), -2000 - well.length());
      edge.same("behind " + wrong, x, twin);
    }
  }

  private void faultOfFormLeavesAll() {
    edge.of(3, "with one nothing");
    for (String wrong : new String[] {"", "x", "a01", "p0000;a05;b033;w07;g73;n3;n", "n3;;"}) {
      MirrorsOnStrike x = Edge.rich();
      x.town();
      x.believes(0, 1);
      MirrorsOnStrike twin = Edge.rich();
      twin.town();
      twin.believes(0, 1);
      edge.is("a FAULT of kind 1", Check.tell(x, wrong) / 1000, -1);
      edge.same("behind " + wrong, x, twin);
    }
  }

  private void nothingCounted() {
    edge.of(3, "the FAULT (nothing is counted)");
    for (String text : new String[] {"", "x", "n", "a00;", "p6000;", "b700;", "w88;", "g04;", "p0000;".repeat(8)}) {
      MirrorsOnStrike x = Edge.nobody();
      Check.tell(x, text);
      edge.is("REFUSALS behind " + text, Check.refusalsOf(x), 0);
    }
    edge.is("town() of p9999;", Check.tell(Edge.nobody(), "p9999;"), -2000);
  }
}
