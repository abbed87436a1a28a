import java.util.Arrays;

/** A town on strike with its mirrors: who says what of whom, and what they come to believe of their looks. */
public final class MirrorsOnStrike {
  private static final int PEOPLE = 7;
  private static final int PLACES = 8;
  private static final int KINDS = 6;
  private static final int FLATTERER = 1;
  private static final int SPITEFUL = 2;
  private static final int SISTER = 3;
  private static final int BLIND = 4;
  private static final int SPOON = 5;
  private static final int FIGURE_MOST = 9;
  private static final int LOOK_MOST = 99;
  private static final int LOOKS = 100;
  private static final int THINGS = 4;
  private static final int GLASS = 3;
  private static final int POND = 2;
  private static final int ALL_PLACES = 255;
  private static final int LETTERS = 96;
  private static final int LETTER_MOST = 255;
  private static final int NUMBERS = 12;
  private static final int WEEKS_MOST = 999;
  private static final int AHEAD_MOST = 60;
  private static final int BACK_MOST = 8;
  private static final int HOURS = 100;
  private static final int BARGAIN_WEEKS = 20;
  private static final int PRICE_MOST = 50;
  private static final int LOTS_MOST = 20;
  private static final int LOTS_WEEKS = 10;
  private static final int LOTS_NEAR = 5;
  private static final int UNSAID = 99;
  private static final int WITHOUT_SIGN = 0x7fffffff;
  /** Above all differences that seven photographs can have. */
  private static final int NO_COST = 1000000;
  /** Above any glances and steps that a way can have. */
  private static final int NO_ROUTE = 1000000;
  /** One glance outweighs all the steps of a way, so that both go into one number. */
  private static final int GLANCE_WEIGHT = 16;
  /** The longest tour goes round a tree of all places: each of its seven ways there and back. */
  private static final int TOUR_MOST = 14;

  private static final int FINE = 0;
  private static final int NOBODY = -1;
  private static final int OTHER = -2;
  private static final int STATE = -3;
  private static final int BELOW = -4;
  private static final int ROOM = -6;
  private static final int NONE = -9;
  private static final int WORTH_REFUSED = 1000000000;
  private static final int FAULT_OF_FORM = -1000;
  private static final int FAULT_OF_SENSE = -2000;

  private final Town here = new Town();
  private final Town draft = new Town();
  private final Town picture = new Town();
  private boolean pictured;
  private final Folk mind = new Folk();
  private final Past past = new Past();
  private final Letters letters = new Letters();
  private final int[] numbers = new int[NUMBERS];
  private int told;
  private final int[] refusals = new int[7];
  private final int[] marks = new int[LOOKS];
  private final int[] costs = new int[1 << PEOPLE];
  private final int[] standing = new int[ALL_PLACES + 1];
  private final int[] moved = new int[ALL_PLACES + 1];

  public MirrorsOnStrike() {
  }

  // ---- Refusals

  private int refuse(int number) {
    int place = -number;
    if (place >= 0 && place < refusals.length) {
      refusals[place]++;
    }
    return number;
  }

  private static int first(int one, int next) {
    return one != FINE ? one : next;
  }

  private int noPerson(int person) {
    return here.folk.has(person) ? FINE : NOBODY;
  }

  private int noTwo(int one, int other) {
    return here.folk.has(one) && here.folk.has(other) && one != other ? FINE : NOBODY;
  }

  private static int noPlace(int place) {
    return isPlace(place) ? FINE : NOBODY;
  }

  private static int noPlaces(int one, int other) {
    return isPlace(one) && isPlace(other) ? FINE : NOBODY;
  }

  private static int noChoice(int what, int choices) {
    return what >= 0 && what < choices ? FINE : OTHER;
  }

  private static int outside(int value, int least, int most) {
    if (value < least) {
      return BELOW;
    }
    return value > most ? ROOM : FINE;
  }

  private static int outside(int one, int oneMost, int other, int otherLeast, int otherMost) {
    if (one < 0 || other < otherLeast) {
      return BELOW;
    }
    return one > oneMost || other > otherMost ? ROOM : FINE;
  }

  private int asksNobody(int person) {
    return here.folk.asked[person] == 0 ? STATE : FINE;
  }

  private int rowTooLong() {
    return told > here.folk.size ? STATE : FINE;
  }

  private static boolean isPlace(int place) {
    return place >= 0 && place < PLACES;
  }

  private static boolean holds(int set, int one) {
    return (set >> one & 1) != 0;
  }

  /** Sets are tried from the least bits on: of as many, the one found first stays. */
  private static boolean fewer(int set, int than) {
    return Integer.bitCount(set) < Integer.bitCount(than);
  }

  private static int leastOf(int people) {
    for (int one = 0; one < PEOPLE; one++) {
      if (holds(people, one)) {
        return one;
      }
    }
    return NONE;
  }

  private Folk ahead(int n) {
    mind.copyFrom(here.folk);
    mind.passWeeks(n);
    return mind;
  }

  // ---- Letters

  public int feed(int letter) {
    int no = outside(letter, 0, LETTER_MOST);
    if (no == FINE && letters.size >= LETTERS) {
      no = ROOM;
    }
    return no != FINE ? refuse(no) : letters.add(letter);
  }

  public int town() {
    draft.copyFrom(here);
    int answer = letters.read(draft);
    letters.size = 0;
    if (answer > 0) {
      here.copyFrom(draft);
      past.size = 0;
    }
    return answer;
  }

  // ---- People and places

  public int person(int person, int what) {
    int no = first(noPerson(person), noChoice(what, 5));
    if (no != FINE) {
      return refuse(no);
    }
    Folk folk = here.folk;
    switch (what) {
      case 0:
        return folk.kinds[person];
      case 1:
        return folk.figures[person];
      case 2:
        return folk.looks[person];
      case 3:
        return folk.beliefs[person];
      default:
        return folk.asked[person];
    }
  }

  public int comes(int kind, int figure, int look) {
    int no = first(noChoice(kind, KINDS), outside(figure, FIGURE_MOST, look, 0, LOOK_MOST));
    if (no == FINE && here.folk.size >= PEOPLE) {
      no = ROOM;
    }
    if (no != FINE) {
      return refuse(no);
    }
    past.size = 0;
    return here.folk.add(kind, figure, look);
  }

  public int asks(int person, int other) {
    int no = noTwo(person, other);
    if (no != FINE) {
      return refuse(no);
    }
    past.keep(here.folk);
    here.folk.asked[person] ^= 1 << other;
    return here.folk.asked[person] >> other & 1;
  }

  public int believes(int person, int v) {
    int no = first(noPerson(person), outside(v, 0, LOOK_MOST));
    if (no != FINE) {
      return refuse(no);
    }
    past.keep(here.folk);
    int was = here.folk.beliefs[person];
    here.folk.beliefs[person] = v;
    return was;
  }

  public int kind(int person, int kind, int figure) {
    int no = first(noPerson(person), first(noChoice(kind, KINDS), outside(figure, 0, FIGURE_MOST)));
    if (no != FINE) {
      return refuse(no);
    }
    past.keep(here.folk);
    int was = 10 * here.folk.kinds[person] + here.folk.figures[person];
    here.folk.kinds[person] = kind;
    here.folk.figures[person] = figure;
    return was;
  }

  public int way(int one, int other) {
    int no = one == other ? NOBODY : noPlaces(one, other);
    if (no != FINE) {
      return refuse(no);
    }
    past.size = 0;
    return here.places.join(one, other);
  }

  public int hangs(int place, int what) {
    int no = first(noPlace(place), noChoice(what, THINGS));
    if (no != FINE) {
      return refuse(no);
    }
    past.size = 0;
    int was = here.places.things[place];
    here.places.things[place] = what;
    return was;
  }

  public int week() {
    if (here.folk.weeks >= WEEKS_MOST) {
      return refuse(ROOM);
    }
    past.keep(here.folk);
    return here.folk.passWeek();
  }

  public int back() {
    return past.size == 0 ? refuse(STATE) : past.takeBack(here.folk);
  }

  // ---- What is said

  public int says(int person, int other) {
    int no = noTwo(person, other);
    return no != FINE ? refuse(no) : here.folk.word(person, here.folk.looks[other]);
  }

  public int saysOf(int person, int look) {
    int no = first(noPerson(person), outside(look, 0, LOOK_MOST));
    return no != FINE ? refuse(no) : here.folk.word(person, look);
  }

  // ---- Behind n weeks

  public int belief(int person, int n) {
    int no = first(noPerson(person), outside(n, 0, AHEAD_MOST));
    return no != FINE ? refuse(no) : ahead(n).beliefs[person];
  }

  public int fooled(int n, int d) {
    int no = outside(n, AHEAD_MOST, d, 0, LOOK_MOST);
    return no != FINE ? refuse(no) : ahead(n).fooledBy(d);
  }

  public int error(int n) {
    int no = outside(n, 0, AHEAD_MOST);
    return no != FINE ? refuse(no) : ahead(n).allErrors();
  }

  public int clash(int d, int what) {
    int no = first(outside(d, 0, LOOK_MOST), noChoice(what, 2));
    if (no != FINE) {
      return refuse(no);
    }
    Folk folk = ahead(0);
    for (int n = 0; n <= AHEAD_MOST; n++) {
      int who = folk.fooledBy(d);
      if (who != 0) {
        return what == 0 ? n : leastOf(who);
      }
      folk.passWeek();
    }
    return NONE;
  }

  public int settles() {
    Folk folk = ahead(0);
    for (int n = 0; n <= AHEAD_MOST; n++) {
      if (folk.passWeek() == 0) {
        return n;
      }
    }
    return NONE;
  }

  public int round() {
    Folk folk = ahead(AHEAD_MOST);
    draft.folk.copyFrom(folk);
    for (int n = 1; n <= AHEAD_MOST; n++) {
      folk.passWeek();
      if (folk.unlike(draft.folk) == 0) {
        return n;
      }
    }
    return NONE;
  }

  // ---- Whom to ask

  public int knows(int person) {
    int no = noPerson(person);
    if (no != FINE) {
      return refuse(no);
    }
    Folk folk = here.folk;
    if (folk.beliefs[person] == folk.looks[person]) {
      return 0;
    }
    int best = NONE;
    int others = folk.others(person);
    for (int set = 1; set <= others; set++) {
      boolean fits = (set & ~others) == 0 && folk.mean(set, folk.looks[person]) == folk.looks[person];
      if (fits && (best == NONE || fewer(set, best))) {
        best = set;
      }
    }
    return best;
  }

  public int nearest(int person, int what) {
    int no = first(noPerson(person), noChoice(what, 2));
    if (no != FINE) {
      return refuse(no);
    }
    int best = NONE;
    int near = NONE;
    int others = here.folk.others(person);
    for (int set = 1; set <= others; set++) {
      if ((set & ~others) != 0) {
        continue;
      }
      int far = errorBySet(person, set);
      if (best == NONE || far < near || far == near && fewer(set, best)) {
        best = set;
        near = far;
      }
    }
    return what == 0 ? best : near;
  }

  private int errorBySet(int person, int set) {
    int look = here.folk.looks[person];
    return Math.abs(here.folk.mean(set, look) - look);
  }

  public int fair(int person, int k, int d) {
    int no = first(noPerson(person), outside(d, LOOK_MOST, k, 1, PEOPLE - 1));
    if (no != FINE) {
      return refuse(no);
    }
    int fits = 0;
    int others = here.folk.others(person);
    for (int set = 1; set <= others; set++) {
      boolean ofK = (set & ~others) == 0 && Integer.bitCount(set) == k;
      if (ofK && errorBySet(person, set) <= d) {
        fits++;
      }
    }
    return fits;
  }

  public int worth(int person, int n) {
    int no = first(noPerson(person), outside(n, 0, AHEAD_MOST));
    if (no != FINE) {
      return WORTH_REFUSED - refuse(no);
    }
    int now = ahead(n).allErrors();
    mind.copyFrom(here.folk);
    for (int one = 0; one < mind.size; one++) {
      mind.asked[one] &= ~(1 << person);
    }
    mind.passWeeks(n);
    return mind.allErrors() - now;
  }

  public int newEar(int n) {
    int no = outside(n, 0, AHEAD_MOST);
    if (no != FINE) {
      return refuse(no);
    }
    int best = NONE;
    int least = ahead(n).allErrors();
    for (int one = 0; one < here.folk.size; one++) {
      for (int other = 0; other < here.folk.size; other++) {
        if (one == other || holds(here.folk.asked[one], other)) {
          continue;
        }
        int errors = errorsWithEar(one, other, n);
        if (errors < least) {
          least = errors;
          best = 10 * one + other;
        }
      }
    }
    return best;
  }

  private int errorsWithEar(int one, int other, int n) {
    mind.copyFrom(here.folk);
    mind.asked[one] |= 1 << other;
    mind.passWeeks(n);
    return mind.allErrors();
  }

  public int sisters(int one, int other, int n, int what) {
    int no = first(noTwo(one, other), first(outside(n, 0, AHEAD_MOST), noChoice(what, 2)));
    if (no != FINE) {
      return refuse(no);
    }
    Folk folk = ahead(0);
    folk.asked[one] = 1 << other;
    folk.asked[other] = 1 << one;
    int apart = folk.apart(one, other);
    int most = apart;
    for (int week = 1; week <= n; week++) {
      folk.passWeek();
      apart = folk.apart(one, other);
      most = Math.max(most, apart);
    }
    return what == 0 ? apart : most;
  }

  public int cheat(int person, int v, int what) {
    int no = first(noPerson(person), first(outside(v, 0, LOOK_MOST), noChoice(what, 2)));
    if (no == FINE) {
      no = asksNobody(person);
    }
    if (no != FINE) {
      return refuse(no);
    }
    int many = 0;
    int least = NONE;
    for (int look = LOOK_MOST; look >= 0; look--) {
      if (here.folk.mean(here.folk.asked[person], look) == v) {
        many++;
        least = look;
      }
    }
    return what == 0 ? many : least;
  }

  // ---- By the row

  private boolean fitsRow(int look) {
    for (int one = 0; one < told; one++) {
      if (numbers[one] != UNSAID && here.folk.word(one, look) != numbers[one]) {
        return false;
      }
    }
    return true;
  }

  public int thief(int what) {
    int no = first(noChoice(what, 3), rowTooLong());
    if (no != FINE) {
      return refuse(no);
    }
    if (what == 2) {
      return suspects();
    }
    int many = 0;
    int least = NONE;
    for (int look = LOOK_MOST; look >= 0; look--) {
      if (fitsRow(look)) {
        many++;
        least = look;
      }
    }
    return what == 0 ? many : least;
  }

  private int suspects() {
    int who = 0;
    for (int one = 0; one < here.folk.size; one++) {
      if (fitsRow(here.folk.looks[one])) {
        who |= 1 << one;
      }
    }
    return who;
  }

  public int tellsMost(int what) {
    int no = first(noChoice(what, 2), first(rowTooLong(), here.folk.size == 0 ? STATE : FINE));
    if (no != FINE) {
      return refuse(no);
    }
    int best = NONE;
    int most = 0;
    for (int one = 0; one < here.folk.size; one++) {
      int kinds = kindsOfWords(one);
      if (kinds > most) {
        most = kinds;
        best = one;
      }
    }
    return what == 0 || best == NONE ? best : most;
  }

  private int kindsOfWords(int one) {
    int kinds = 0;
    Arrays.fill(marks, 0);
    for (int look = 0; look < LOOKS; look++) {
      int said = here.folk.word(one, look);
      boolean isNew = said >= 0 && said < LOOKS && marks[said] == 0;
      if (isNew && fitsRow(look)) {
        marks[said] = 1;
        kinds++;
      }
    }
    return kinds;
  }

  public int photos(int i) {
    int no = i < -1 ? BELOW : FINE;
    if (no == FINE && told != here.folk.size) {
      no = STATE;
    }
    if (no != FINE) {
      return refuse(no);
    }
    fillCosts();
    if (i == -1) {
      return costs[0];
    }
    return i < told ? photoOf(i) : NONE;
  }

  /** costs[taken]: the least differences of those who still come, when so many of the photographs are taken. */
  private void fillCosts() {
    int all = (1 << told) - 1;
    costs[all] = 0;
    for (int taken = all - 1; taken >= 0; taken--) {
      int who = Integer.bitCount(taken);
      int least = NO_COST;
      for (int photo = 0; photo < told; photo++) {
        if (!holds(taken, photo)) {
          least = Math.min(least, costWith(who, photo, taken));
        }
      }
      costs[taken] = least;
    }
  }

  private int costWith(int who, int photo, int taken) {
    return Math.abs(here.folk.looks[who] - numbers[photo]) + costs[taken | 1 << photo];
  }

  private int photoOf(int person) {
    int taken = 0;
    int mine = NONE;
    for (int who = 0; who <= person; who++) {
      mine = firstPhoto(who, taken);
      if (mine == NONE) {
        return NONE;
      }
      taken |= 1 << mine;
    }
    return mine;
  }

  private int firstPhoto(int who, int taken) {
    for (int photo = 0; photo < told; photo++) {
      if (!holds(taken, photo) && costWith(who, photo, taken) == costs[taken]) {
        return photo;
      }
    }
    return NONE;
  }

  public int barber(int person, int v) {
    int no = first(noPerson(person), outside(v, 0, LOOK_MOST));
    if (no == FINE) {
      no = asksNobody(person);
    }
    if (no != FINE) {
      return refuse(no);
    }
    int least = NONE;
    for (int look = 0; look < LOOKS; look++) {
      int price = Math.abs(look - here.folk.looks[person]);
      boolean enough = here.folk.mean(here.folk.asked[person], look) >= v;
      if (enough && (least == NONE || price < least)) {
        least = price;
      }
    }
    return least;
  }

  // ---- Places

  public int steps(int from, int to) {
    int no = noPlaces(from, to);
    return no != FINE ? refuse(no) : Net.distance(here.places.ways, from, to);
  }

  public int glances(int from, int to, int what) {
    int no = first(noPlaces(from, to), noChoice(what, 2));
    if (no != FINE) {
      return refuse(no);
    }
    int route = here.places.route(from, to);
    if (route == NO_ROUTE) {
      return NONE;
    }
    return what == 0 ? route / GLANCE_WEIGHT : route % GLANCE_WEIGHT;
  }

  public int unseen(int place) {
    int no = noPlace(place);
    return no != FINE ? refuse(no) : Net.reach(here.places.ways, 1 << place, here.places.bare());
  }

  public int cover(int from, int to) {
    int no = noPlaces(from, to);
    if (no != FINE) {
      return refuse(no);
    }
    int best = NONE;
    int least = here.places.route(from, to) / GLANCE_WEIGHT;
    for (int place = 0; place < PLACES; place++) {
      int glances = here.places.routeCovered(from, to, place) / GLANCE_WEIGHT;
      if (glances < least) {
        least = glances;
        best = place;
      }
    }
    return best;
  }

  // ---- The bargain

  public int bargain(int w, int c) {
    int no = outside(c, PRICE_MOST, w, 1, BARGAIN_WEEKS);
    return no != FINE ? refuse(no) : townShare(w, c);
  }

  /** From the last week back: who offers keeps what the other would not have as the next to offer. */
  private static int townShare(int w, int c) {
    int offering = 0;
    for (int week = w; week >= 1; week--) {
      int hours = Math.max(0, HOURS - c * (week - 1));
      offering = hours - offering;
    }
    return offering;
  }

  public int strike(int c) {
    int no = outside(c, 0, PRICE_MOST);
    if (no != FINE) {
      return refuse(no);
    }
    int best = 1;
    for (int w = 2; w <= BARGAIN_WEEKS; w++) {
      if (townShare(w, c) > townShare(best, c)) {
        best = w;
      }
    }
    return best;
  }

  // ---- Beliefs looked at

  public int echo(int person) {
    int no = noPerson(person);
    return no != FINE ? refuse(no) : here.folk.sources(person);
  }

  public int loops(int what) {
    int no = noChoice(what, 3);
    if (no != FINE) {
      return refuse(no);
    }
    Folk folk = here.folk;
    if (what == 2) {
      return folk.everybody() & ~Net.next(folk.asked, folk.everybody());
    }
    int who = 0;
    for (int one = 0; one < folk.size; one++) {
      boolean so = what == 0 ? holds(folk.sources(one), one) : folk.asked[one] == 0;
      if (so) {
        who |= 1 << one;
      }
    }
    return who;
  }

  public int humble(int n) {
    int no = outside(n, 0, AHEAD_MOST);
    if (no != FINE) {
      return refuse(no);
    }
    int best = NONE;
    int least = ahead(n).allErrors();
    for (int one = 0; one < here.folk.size; one++) {
      int errors = aheadWithFigure(one, n, 0).allErrors();
      if (errors < least) {
        least = errors;
        best = one;
      }
    }
    return best;
  }

  private Folk aheadWithFigure(int person, int n, int figure) {
    mind.copyFrom(here.folk);
    mind.figures[person] = figure;
    mind.passWeeks(n);
    return mind;
  }

  /** A mean lies between the words it is of, so the ends are reached by asking one alone. */
  public int highest(int person, int what) {
    int no = first(noPerson(person), noChoice(what, 2));
    if (no != FINE) {
      return refuse(no);
    }
    int end = NONE;
    for (int one = 0; one < here.folk.size; one++) {
      if (one == person) {
        continue;
      }
      int said = here.folk.word(one, here.folk.looks[person]);
      if (end == NONE || (what == 0 ? said > end : said < end)) {
        end = said;
      }
    }
    return end;
  }

  public int spread(int n) {
    int no = outside(n, 0, AHEAD_MOST);
    return no != FINE ? refuse(no) : ahead(n).width();
  }

  public int pairs() {
    Folk folk = here.folk;
    int best = NONE;
    int most = NONE;
    for (int one = 0; one < folk.size; one++) {
      for (int other = one + 1; other < folk.size; other++) {
        boolean both = holds(folk.asked[one], other) && holds(folk.asked[other], one);
        if (both && folk.apart(one, other) > most) {
          most = folk.apart(one, other);
          best = 10 * one + other;
        }
      }
    }
    return best;
  }

  public int calm(int d) {
    int no = outside(d, 0, LOOK_MOST);
    if (no != FINE) {
      return refuse(no);
    }
    Folk folk = ahead(0);
    for (int n = 0; n <= AHEAD_MOST; n++) {
      boolean someFooled = folk.fooledBy(d) != 0;
      folk.passWeek();
      if (someFooled && folk.widestChange <= d) {
        return n;
      }
    }
    return NONE;
  }

  // ---- Who is honest, who is asked

  public int honest(int what) {
    int no = noChoice(what, 2);
    if (no != FINE) {
      return refuse(no);
    }
    if (here.folk.size < 2) {
      return NONE;
    }
    int best = 0;
    for (int one = 1; one < here.folk.size; one++) {
      if (here.folk.untruth(one) < here.folk.untruth(best)) {
        best = one;
      }
    }
    return what == 0 ? best : here.folk.untruth(best);
  }

  public int chain(int person, int other) {
    int no = noTwo(person, other);
    return no != FINE ? refuse(no) : Net.distance(here.folk.asked, person, other);
  }

  public int clique() {
    int best = 0;
    int all = here.folk.everybody();
    for (int set = 1; set <= all; set++) {
      if (here.folk.allAskEachOther(set) && Integer.bitCount(set) > Integer.bitCount(best)) {
        best = set;
      }
    }
    return best;
  }

  public int cut(int person, int other) {
    int no = noTwo(person, other);
    if (no != FINE) {
      return refuse(no);
    }
    Folk folk = here.folk;
    if (holds(folk.asked[person], other)) {
      return NONE;
    }
    int best = NONE;
    int between = folk.others(person) & ~(1 << other);
    for (int set = 0; set <= between; set++) {
      boolean parted = (set & ~between) == 0 && !holds(Net.reach(folk.asked, 1 << person, ~set), other);
      if (parted && (best == NONE || fewer(set, best))) {
        best = set;
      }
    }
    return best;
  }

  public int wanted(int person, int v) {
    int no = first(noPerson(person), outside(v, 0, LOOK_MOST));
    if (no != FINE) {
      return refuse(no);
    }
    Folk folk = ahead(0);
    for (int n = 0; n <= AHEAD_MOST; n++) {
      if (folk.beliefs[person] >= v) {
        return n;
      }
      folk.passWeek();
    }
    return NONE;
  }

  public int panel(int person, int k) {
    int no = first(noPerson(person), outside(k, 1, PEOPLE - 1));
    if (no != FINE) {
      return refuse(no);
    }
    int best = NONE;
    int most = NONE;
    int others = here.folk.others(person);
    for (int set = 1; set <= others; set++) {
      if ((set & ~others) != 0 || Integer.bitCount(set) != k) {
        continue;
      }
      int mean = here.folk.mean(set, here.folk.looks[person]);
      if (mean > most) {
        most = mean;
        best = set;
      }
    }
    return best;
  }

  // ---- Ways through all places

  public int tour(int place, int set) {
    int no = first(noPlace(place), outside(set, 0, ALL_PLACES));
    if (no != FINE) {
      return refuse(no);
    }
    Arrays.fill(standing, 0);
    standing[1 << place] = 1 << place;
    for (int n = 0; n <= TOUR_MOST; n++) {
      if (hasSeen(set)) {
        return n;
      }
      stepOn();
    }
    return NONE;
  }

  private boolean hasSeen(int set) {
    for (int seen = 0; seen <= ALL_PLACES; seen++) {
      if (standing[seen] != 0 && (set & ~seen) == 0) {
        return true;
      }
    }
    return false;
  }

  /** standing[seen]: at which places one can stand by now, having come to just those seen. */
  private void stepOn() {
    Arrays.fill(moved, 0);
    for (int seen = 0; seen <= ALL_PLACES; seen++) {
      int next = standing[seen] == 0 ? 0 : Net.next(here.places.ways, standing[seen]);
      for (int place = 0; place < PLACES; place++) {
        if (holds(next, place)) {
          moved[seen | 1 << place] |= 1 << place;
        }
      }
    }
    System.arraycopy(moved, 0, standing, 0, moved.length);
  }

  public int narrows(int from, int to) {
    int no = from == to ? NOBODY : noPlaces(from, to);
    if (no != FINE) {
      return refuse(no);
    }
    int[] ways = here.places.ways;
    if (!holds(Net.reach(ways, 1 << from, ALL_PLACES), to)) {
      return NONE;
    }
    int narrow = 0;
    for (int place = 0; place < PLACES; place++) {
      boolean between = place != from && place != to;
      if (between && !holds(Net.reach(ways, 1 << from, ~(1 << place)), to)) {
        narrow |= 1 << place;
      }
    }
    return narrow;
  }

  public int middle(int place, int what) {
    int no = first(noPlace(place), noChoice(what, 2));
    if (no != FINE) {
      return refuse(no);
    }
    int[] ways = here.places.ways;
    int round = Net.reach(ways, 1 << place, ALL_PLACES);
    int best = NONE;
    int least = PLACES;
    for (int one = 0; one < PLACES; one++) {
      int far = holds(round, one) ? Net.farthest(ways, one) : PLACES;
      if (far < least) {
        least = far;
        best = one;
      }
    }
    return what == 0 ? best : least;
  }

  public int changed(int person, int n, int v) {
    int no = first(noPerson(person), outside(n, AHEAD_MOST, v, 0, FIGURE_MOST));
    if (no != FINE) {
      return refuse(no);
    }
    draft.folk.copyFrom(ahead(n));
    return aheadWithFigure(person, n, v).unlike(draft.folk);
  }

  // ---- The row, lots, the image

  public int row(int v) {
    int no = outside(v, 0, LOOK_MOST);
    if (no == FINE && told >= NUMBERS) {
      no = ROOM;
    }
    if (no != FINE) {
      return refuse(no);
    }
    numbers[told] = v;
    told++;
    return told;
  }

  public int judge() {
    int many = told;
    told = 0;
    for (int one = 0; one < many; one++) {
      if (!here.folk.has(one) || here.folk.beliefs[one] != numbers[one]) {
        return one;
      }
    }
    return NONE;
  }

  public int clear() {
    int many = told;
    told = 0;
    return many;
  }

  public int lots(int n, int z, int what) {
    int no = first(outside(n, 1, LOTS_MOST), noChoice(what, 2));
    if (no != FINE) {
      return refuse(no);
    }
    int seed = z;
    int errors = 0;
    int near = 0;
    for (int time = 0; time < n; time++) {
      mind.copyFrom(here.folk);
      seed = mind.askByLot(seed);
      mind.passWeeks(LOTS_WEEKS);
      errors += mind.allErrors();
      near += mind.fooledBy(LOTS_NEAR) == 0 ? 1 : 0;
    }
    return what == 0 ? errors : near;
  }

  public int image() {
    picture.copyFrom(here);
    pictured = true;
    return here.folk.weeks;
  }

  public int restore() {
    if (!pictured) {
      return refuse(STATE);
    }
    here.copyFrom(picture);
    past.size = 0;
    return here.folk.weeks;
  }

  public int count(int what) {
    switch (what) {
      case 0:
        return here.folk.size;
      case 1:
        return here.folk.weeks;
      case 2:
        return here.folk.sum(here.folk.looks);
      case 3:
        return here.folk.sum(here.folk.beliefs);
      case 4:
        return here.places.countWays();
      case 5:
        return letters.size;
      case 6:
        return told;
      case 7:
        return past.size;
      default:
        return what >= 11 && what <= 16 ? refusals[what - 10] : NONE;
    }
  }

  /** Nets of arcs: arcs[i] holds, as bits, where one comes from i. */
  private static final class Net {
    private Net() {
    }

    static int next(int[] arcs, int from) {
      int to = 0;
      for (int i = 0; i < arcs.length; i++) {
        if (holds(from, i)) {
          to |= arcs[i];
        }
      }
      return to;
    }

    /** Where one comes from these, themselves too, through nothing but what is open. */
    static int reach(int[] arcs, int from, int open) {
      int seen = from;
      for (int i = 0; i < arcs.length; i++) {
        seen |= next(arcs, seen) & open;
      }
      return seen;
    }

    static int distance(int[] arcs, int from, int to) {
      int seen = 1 << from;
      for (int n = 0; n < arcs.length; n++) {
        if (holds(seen, to)) {
          return n;
        }
        seen |= next(arcs, seen);
      }
      return NONE;
    }

    /** How far the farthest is of all where one comes. */
    static int farthest(int[] arcs, int from) {
      int all = reach(arcs, 1 << from, -1);
      int seen = 1 << from;
      int far = 0;
      for (int n = 1; n < arcs.length && seen != all; n++) {
        seen |= next(arcs, seen);
        far = n;
      }
      return far;
    }
  }

  private static final class Folk {
    int size;
    int weeks;
    int widestChange;
    final int[] kinds = new int[PEOPLE];
    final int[] figures = new int[PEOPLE];
    final int[] looks = new int[PEOPLE];
    final int[] beliefs = new int[PEOPLE];
    final int[] asked = new int[PEOPLE];
    private final int[] next = new int[PEOPLE];

    void copyFrom(Folk other) {
      size = other.size;
      weeks = other.weeks;
      System.arraycopy(other.kinds, 0, kinds, 0, PEOPLE);
      System.arraycopy(other.figures, 0, figures, 0, PEOPLE);
      System.arraycopy(other.looks, 0, looks, 0, PEOPLE);
      System.arraycopy(other.beliefs, 0, beliefs, 0, PEOPLE);
      System.arraycopy(other.asked, 0, asked, 0, PEOPLE);
    }

    boolean has(int person) {
      return person >= 0 && person < size;
    }

    int everybody() {
      return (1 << size) - 1;
    }

    int others(int person) {
      return everybody() & ~(1 << person);
    }

    int add(int kind, int figure, int look) {
      if (size >= PEOPLE) {
        return NONE;
      }
      kinds[size] = kind;
      figures[size] = figure;
      looks[size] = look;
      beliefs[size] = look;
      asked[size] = 0;
      size++;
      return size - 1;
    }

    int word(int one, int look) {
      int more = look + figures[one] > LOOK_MOST ? LOOK_MOST : look + figures[one];
      int twice = 2 * figures[one];
      switch (kinds[one]) {
        case FLATTERER:
          return more;
        case SPITEFUL:
          return look < twice ? 0 : look - twice;
        case SISTER:
          return (more + beliefs[one]) / 2;
        case BLIND:
          return beliefs[one] < twice ? 0 : beliefs[one] - twice;
        case SPOON:
          return LOOK_MOST - look;
        default:
          return look;
      }
    }

    /** What a set of people say of a look, the mean, cut; -9 of nobody. */
    int mean(int set, int look) {
      int sum = 0;
      int many = 0;
      for (int one = 0; one < size; one++) {
        if (holds(set, one)) {
          sum += word(one, look);
          many++;
        }
      }
      return many == 0 ? NONE : sum / many;
    }

    /** A week goes by: how many believe otherwise. */
    int passWeek() {
      for (int one = 0; one < size; one++) {
        next[one] = asked[one] == 0 ? beliefs[one] : mean(asked[one], looks[one]);
      }
      int otherwise = 0;
      widestChange = 0;
      for (int one = 0; one < size; one++) {
        int change = Math.abs(next[one] - beliefs[one]);
        widestChange = Math.max(widestChange, change);
        otherwise += change == 0 ? 0 : 1;
        beliefs[one] = next[one];
      }
      weeks++;
      return otherwise;
    }

    void passWeeks(int n) {
      for (int week = 0; week < n; week++) {
        passWeek();
      }
    }

    int unlike(Folk other) {
      int many = 0;
      for (int one = 0; one < size; one++) {
        many += beliefs[one] == other.beliefs[one] ? 0 : 1;
      }
      return many;
    }

    int allErrors() {
      int sum = 0;
      for (int one = 0; one < size; one++) {
        sum += Math.abs(beliefs[one] - looks[one]);
      }
      return sum;
    }

    int fooledBy(int d) {
      int who = 0;
      for (int one = 0; one < size; one++) {
        if (Math.abs(beliefs[one] - looks[one]) > d) {
          who |= 1 << one;
        }
      }
      return who;
    }

    int apart(int one, int other) {
      return Math.abs(beliefs[one] - beliefs[other]);
    }

    int width() {
      if (size == 0) {
        return 0;
      }
      int least = beliefs[0];
      int most = beliefs[0];
      for (int one = 1; one < size; one++) {
        least = Math.min(least, beliefs[one]);
        most = Math.max(most, beliefs[one]);
      }
      return most - least;
    }

    int sources(int person) {
      return Net.reach(asked, asked[person], -1);
    }

    boolean allAskEachOther(int set) {
      for (int one = 0; one < size; one++) {
        int rest = set & ~(1 << one);
        if (holds(set, one) && (rest & ~asked[one]) != 0) {
          return false;
        }
      }
      return true;
    }

    /** How far from the truth one's words are, of all others together. */
    int untruth(int one) {
      int sum = 0;
      for (int other = 0; other < size; other++) {
        if (other != one) {
          sum += Math.abs(word(one, looks[other]) - looks[other]);
        }
      }
      return sum;
    }

    /** Each asks whom the lot names: the seed behind the last draw. */
    int askByLot(int seed) {
      int z = seed;
      for (int one = 0; one < size; one++) {
        z = z * 1103515245 + 12345;
        int draw = (z & WITHOUT_SIGN) / 65536 % 128;
        asked[one] = draw & others(one);
      }
      return z;
    }

    int sum(int[] values) {
      int sum = 0;
      for (int one = 0; one < size && one < values.length; one++) {
        sum += values[one];
      }
      return sum;
    }
  }

  private static final class Places {
    final int[] ways = new int[PLACES];
    final int[] things = new int[PLACES];
    private final int[] routes = new int[PLACES];

    void copyFrom(Places other) {
      System.arraycopy(other.ways, 0, ways, 0, PLACES);
      System.arraycopy(other.things, 0, things, 0, PLACES);
    }

    /** A way, or none any more: 1, 0. */
    int join(int one, int other) {
      ways[one] ^= 1 << other;
      ways[other] ^= 1 << one;
      return ways[one] >> other & 1;
    }

    int countWays() {
      int ends = 0;
      for (int place = 0; place < PLACES; place++) {
        ends += Integer.bitCount(ways[place]);
      }
      return ends / 2;
    }

    private int glancesAt(int place) {
      int thing = things[place];
      if (thing == GLASS) {
        return 7;
      }
      return thing == POND ? 3 : thing;
    }

    int bare() {
      int free = 0;
      for (int place = 0; place < PLACES; place++) {
        if (glancesAt(place) == 0) {
          free |= 1 << place;
        }
      }
      return free;
    }

    /** The fewest glances, weighed, and the fewest steps with so few. */
    int route(int from, int to) {
      Arrays.fill(routes, NO_ROUTE);
      routes[from] = GLANCE_WEIGHT * glancesAt(from);
      for (int turn = 1; turn < PLACES; turn++) {
        for (int place = 0; place < PLACES; place++) {
          goOnFrom(place);
        }
      }
      return routes[to];
    }

    private void goOnFrom(int place) {
      if (routes[place] == NO_ROUTE) {
        return;
      }
      for (int next = 0; next < PLACES; next++) {
        if (holds(ways[place], next)) {
          int by = routes[place] + GLANCE_WEIGHT * glancesAt(next) + 1;
          routes[next] = Math.min(routes[next], by);
        }
      }
    }

    int routeCovered(int from, int to, int covered) {
      int thing = things[covered];
      things[covered] = 0;
      int route = route(from, to);
      things[covered] = thing;
      return route;
    }
  }

  /** One object of its own, so that an image, and a town that may have a fault, can be kept whole. */
  private static final class Town {
    final Folk folk = new Folk();
    final Places places = new Places();

    void copyFrom(Town other) {
      folk.copyFrom(other.folk);
      places.copyFrom(other.places);
    }
  }

  /** What can be taken back: the people as they were, the latest last. */
  private static final class Past {
    int size;
    private final Folk[] states = new Folk[BACK_MOST];

    Past() {
      for (int i = 0; i < BACK_MOST; i++) {
        states[i] = new Folk();
      }
    }

    void keep(Folk folk) {
      if (size >= BACK_MOST) {
        dropOldest();
      }
      states[size].copyFrom(folk);
      size++;
    }

    private void dropOldest() {
      Folk oldest = states[0];
      for (int i = 1; i < BACK_MOST; i++) {
        states[i - 1] = states[i];
      }
      states[BACK_MOST - 1] = oldest;
      size = BACK_MOST - 1;
    }

    int takeBack(Folk folk) {
      if (size > 0) {
        size--;
        folk.copyFrom(states[size]);
      }
      return size;
    }
  }

  private static final class Letters {
    int size;
    private final int[] signs = new int[LETTERS];

    int add(int letter) {
      if (size < LETTERS) {
        signs[size] = letter;
        size++;
      }
      return size;
    }

    /** Brings what is told into a town: how many statements, or the fault. */
    int read(Town town) {
      int fault = faultOfForm();
      if (fault >= 0) {
        return FAULT_OF_FORM - fault;
      }
      int statements = 0;
      for (int at = 0; at < size; at++) {
        boolean begins = at == 0 || signs[at - 1] == ';';
        if (begins && !comesTrue(at, town)) {
          return FAULT_OF_SENSE - at;
        }
        statements += begins ? 1 : 0;
      }
      return statements;
    }

    private static int digitsBehind(int sign) {
      switch (sign) {
        case 'p':
          return 4;
        case 'b':
          return 3;
        case 'a':
        case 'w':
        case 'g':
          return 2;
        case 'n':
          return 1;
        default:
          return NONE;
      }
    }

    /** The first place where no statement can go on, or -9. */
    private int faultOfForm() {
      if (size == 0) {
        return 0;
      }
      int digits = 0;
      boolean inside = false;
      for (int at = 0; at < size; at++) {
        int sign = signs[at];
        if (!inside) {
          digits = digitsBehind(sign);
          if (digits == NONE) {
            return at;
          }
          inside = true;
        } else if (digits > 0) {
          if (sign < '0' || sign > '9') {
            return at;
          }
          digits--;
        } else {
          if (sign != ';') {
            return at;
          }
          inside = false;
        }
      }
      return inside ? size : NONE;
    }

    private int digit(int at) {
      return at < size ? signs[at] - '0' : 0;
    }

    private int twoDigits(int at) {
      return 10 * digit(at) + digit(at + 1);
    }

    private boolean comesTrue(int at, Town town) {
      switch (signs[at]) {
        case 'p':
          return onePersonMore(at, town.folk);
        case 'a':
          return oneAsks(town.folk, digit(at + 1), digit(at + 2));
        case 'b':
          return oneBelieves(town.folk, digit(at + 1), twoDigits(at + 2));
        case 'w':
          return wayGoes(town.places, digit(at + 1), digit(at + 2));
        case 'g':
          return thingHangs(town.places, digit(at + 1), digit(at + 2));
        default:
          return weeksPass(town.folk, digit(at + 1));
      }
    }

    private boolean onePersonMore(int at, Folk folk) {
      int kind = digit(at + 1);
      if (kind >= KINDS || folk.size >= PEOPLE) {
        return false;
      }
      folk.add(kind, digit(at + 2), twoDigits(at + 3));
      return true;
    }

    private static boolean oneAsks(Folk folk, int one, int other) {
      if (!folk.has(one) || !folk.has(other) || one == other) {
        return false;
      }
      folk.asked[one] ^= 1 << other;
      return true;
    }

    private static boolean oneBelieves(Folk folk, int one, int v) {
      if (!folk.has(one)) {
        return false;
      }
      folk.beliefs[one] = v;
      return true;
    }

    private static boolean wayGoes(Places places, int one, int other) {
      if (!isPlace(one) || !isPlace(other) || one == other) {
        return false;
      }
      places.join(one, other);
      return true;
    }

    private static boolean thingHangs(Places places, int place, int thing) {
      if (!isPlace(place) || thing >= THINGS) {
        return false;
      }
      places.things[place] = thing;
      return true;
    }

    private static boolean weeksPass(Folk folk, int n) {
      if (folk.weeks + n > WEEKS_MOST) {
        return false;
      }
      for (int week = 0; week < n; week++) {
        folk.passWeek();
      }
      return true;
    }
  }
}
