import java.util.ArrayList;
import java.util.Arrays;
import java.util.List;
import java.util.function.IntPredicate;
import java.util.function.ToIntFunction;

/** The document's part I to IV once more, by trying everything out, to be held beside the program. */
final class Model {
  static final class One {
    int kind;
    int figure;
    int look;
    int belief;
    boolean[] asks = new boolean[7];

    One copy() {
      One other = new One();
      other.kind = kind;
      other.figure = figure;
      other.look = look;
      other.belief = belief;
      other.asks = asks.clone();
      return other;
    }

    int says(int of) {
      int spite = kind == 4 ? belief : of;
      return switch (kind) {
        case 0 -> of;
        case 1 -> of + figure > 99 ? 99 : of + figure;
        case 2, 4 -> spite < 2 * figure ? 0 : spite - 2 * figure;
        case 3 -> ((of + figure > 99 ? 99 : of + figure) + belief) >> 1;
        default -> 99 - of;
      };
    }
  }

  static final class World {
    List<One> people = new ArrayList<>();
    boolean[][] way = new boolean[8][8];
    int[] hung = new int[8];
    int weeks;

    World copy() {
      World other = new World();
      for (One one : people) {
        other.people.add(one.copy());
      }
      for (int i = 0; i < 8; i++) {
        other.way[i] = way[i].clone();
      }
      other.hung = hung.clone();
      other.weeks = weeks;
      return other;
    }

    int size() {
      return people.size();
    }

    One at(int i) {
      return people.get(i);
    }

    int[] beliefs() {
      return people.stream().mapToInt(one -> one.belief).toArray();
    }

    int heardBy(int who, int of) {
      return (int) Math.floor(people.stream().filter(o -> at(who).asks[people.indexOf(o)]).mapToInt(o -> o.says(of)).average().orElse(at(who).belief));
    }

    void week() {
      int[] next = new int[size()];
      for (int i = 0; i < size(); i++) {
        next[i] = heardBy(i, at(i).look);
      }
      for (int i = 0; i < size(); i++) {
        at(i).belief = next[i];
      }
      weeks++;
    }

    World behind(int n) {
      World other = copy();
      for (int i = 0; i < n; i++) {
        other.week();
      }
      return other;
    }

    int error() {
      return people.stream().mapToInt(one -> Math.abs(one.look - one.belief)).sum();
    }

    int fooled(int d) {
      return set(size(), i -> Math.abs(at(i).look - at(i).belief) > d);
    }

    boolean asks(int i, int j) {
      return at(i).asks[j];
    }

    World asking(int who, int whom) {
      World other = copy();
      for (int j = 0; j < 7; j++) {
        other.at(who).asks[j] = (whom >> j & 1) == 1;
      }
      return other;
    }
  }

  World w = new World();
  World image;
  final List<World> past = new ArrayList<>();
  final List<Integer> row = new ArrayList<>();
  final StringBuilder letters = new StringBuilder();
  final int[] refusals = new int[7];

  static int set(int n, IntPredicate holds) {
    int bits = 0;
    for (int i = 0; i < n; i++) {
      bits += holds.test(i) ? 1 << i : 0;
    }
    return bits;
  }

  /** The least of 0 .. n - 1 that fits, or -9. */
  static int least(int n, IntPredicate fits) {
    for (int i = 0; i < n; i++) {
      if (fits.test(i)) {
        return i;
      }
    }
    return -9;
  }

  /** All sets of the others of one, with fewest ahead, then with least bits. */
  List<Integer> setsOf(int others) {
    List<Integer> sets = new ArrayList<>();
    for (int s = 0; s < 128; s++) {
      if ((s | others) == others) {
        sets.add(s);
      }
    }
    sets.sort((a, b) -> Integer.bitCount(a) != Integer.bitCount(b) ? Integer.bitCount(a) - Integer.bitCount(b) : a - b);
    return sets;
  }

  List<Integer> askable(int who) {
    List<Integer> sets = setsOf(((1 << w.size()) - 1) & ~(1 << who));
    sets.remove(Integer.valueOf(0));
    return sets;
  }

  int beliefWith(int who, int whom) {
    World other = w.asking(who, whom);
    other.week();
    return other.at(who).belief;
  }

  int no(int number) {
    refusals[-number]++;
    return number;
  }

  int checkPerson(int... who) {
    for (int p : who) {
      if (p < 0 || p >= w.size()) {
        return -1;
      }
    }
    return who.length == 2 && who[0] == who[1] ? -1 : 0;
  }

  static int checkPlace(boolean twiceIsWrong, int... places) {
    for (int p : places) {
      if (p < 0 || p > 7) {
        return -1;
      }
    }
    return twiceIsWrong && places[0] == places[1] ? -1 : 0;
  }

  /** value, least, greatest; again and again: first all that are below, then all that are above. */
  static int checkRange(int... v) {
    for (int i = 0; i < v.length; i += 3) {
      if (v[i] < v[i + 1]) {
        return -4;
      }
    }
    for (int i = 0; i < v.length; i += 3) {
      if (v[i] > v[i + 2]) {
        return -6;
      }
    }
    return 0;
  }

  static int checkWhat(int what, int most) {
    return what < 0 || what > most ? -2 : 0;
  }

  static int firstOf(int... numbers) {
    return Arrays.stream(numbers).filter(n -> n != 0).findFirst().orElse(0);
  }

  void keep() {
    past.add(w.copy());
    if (past.size() > 8) {
      past.remove(0);
    }
  }

  int town() {
    String text = letters.toString();
    letters.setLength(0);
    java.util.regex.Pattern whole = java.util.regex.Pattern.compile("(p\\d{4};|[awg]\\d\\d;|b\\d{3};|n\\d;)+");
    java.util.regex.Matcher m = whole.matcher(text);
    if (!m.matches()) {
      for (int n = 0; n < text.length(); n++) {
        m = whole.matcher(text.substring(0, n + 1));
        if (!m.matches() && !m.hitEnd()) {
          return -1000 - n;
        }
      }
      return -1000 - text.length();
    }
    World draft = w.copy();
    int at = 0;
    int statements = 0;
    for (String s : text.split(";")) {
      if (!comes(draft, s)) {
        return -2000 - at;
      }
      at += s.length() + 1;
      statements++;
    }
    w = draft;
    past.clear();
    return statements;
  }

  private static boolean comes(World draft, String s) {
    int a = s.charAt(1) - '0';
    int b = s.length() > 2 ? s.charAt(2) - '0' : 0;
    switch (s.charAt(0)) {
      case 'p':
        if (a > 5 || draft.size() == 7) {
          return false;
        }
        One one = new One();
        one.kind = a;
        one.figure = b;
        one.look = Integer.parseInt(s.substring(3));
        one.belief = one.look;
        draft.people.add(one);
        return true;
      case 'a':
        if (a >= draft.size() || b >= draft.size() || a == b) {
          return false;
        }
        draft.at(a).asks[b] = !draft.at(a).asks[b];
        return true;
      case 'b':
        if (a >= draft.size()) {
          return false;
        }
        draft.at(a).belief = Integer.parseInt(s.substring(2));
        return true;
      case 'w':
        if (a > 7 || b > 7 || a == b) {
          return false;
        }
        draft.way[a][b] = !draft.way[a][b];
        draft.way[b][a] = draft.way[a][b];
        return true;
      case 'g':
        if (a > 7 || b > 3) {
          return false;
        }
        draft.hung[a] = b;
        return true;
      default:
        if (draft.weeks + a > 999) {
          return false;
        }
        for (int i = 0; i < a; i++) {
          draft.week();
        }
        return true;
    }
  }

  // ---- Ways: every way without a place twice is walked.

  static final int[] SEEN = {0, 1, 3, 7};

  interface Walk {
    void at(int place, int steps, int glances, int been);
  }

  void walk(World in, int place, int steps, int glances, int been, Walk walk) {
    int g = glances + SEEN[in.hung[place]];
    walk.at(place, steps, g, been | 1 << place);
    for (int next = 0; next < 8; next++) {
      if (in.way[place][next] && (been >> next & 1) == 0) {
        walk(in, next, steps + 1, g, been | 1 << place, walk);
      }
    }
  }

  int stepsBetween(int from, int to) {
    int[] best = {-9};
    walk(w, from, 0, 0, 0, (p, s, g, b) -> best[0] = p == to && (best[0] < 0 || s < best[0]) ? s : best[0]);
    return best[0];
  }

  /** Glances times 100 and steps, or -9. */
  int seenBetween(World in, int from, int to) {
    int[] best = {-9};
    walk(in, from, 0, 0, 0, (p, s, g, b) -> best[0] = p == to && (best[0] < 0 || 100 * g + s < best[0]) ? 100 * g + s : best[0]);
    return best[0];
  }

  int cover(int from, int to) {
    int now = seenBetween(w, from, to);
    int best = -9;
    for (int p = 0; now >= 0 && p < 8; p++) {
      World other = w.copy();
      other.hung[p] = 0;
      int then = seenBetween(other, from, to) / 100;
      if (then < now / 100 && (best < 0 || then < bestCover(best, from, to))) {
        best = p;
      }
    }
    return best;
  }

  private int bestCover(int place, int from, int to) {
    World other = w.copy();
    other.hung[place] = 0;
    return seenBetween(other, from, to) / 100;
  }

  int unseen(int place) {
    World other = w.copy();
    other.hung[place] = 0;
    return set(8, p -> seenBetween(other, place, p) >= 0 && seenBetween(other, place, p) < 100);
  }

  /** The fewest steps by the best order in which the places of the set are come to. */
  int tour(int from, int set) {
    int left = set & ~(1 << from);
    if (left == 0) {
      return 0;
    }
    int best = -9;
    for (int p = 0; p < 8; p++) {
      if ((left >> p & 1) == 1) {
        int there = distance[from][p];
        int rest = there < 0 ? -9 : tour(p, left);
        if (rest >= 0 && (best < 0 || there + rest < best)) {
          best = there + rest;
        }
      }
    }
    return best;
  }

  int[][] distance = new int[8][8];

  void measure() {
    for (int a = 0; a < 8; a++) {
      for (int b = 0; b < 8; b++) {
        distance[a][b] = stepsBetween(a, b);
      }
    }
  }

  int narrows(int from, int to) {
    int[] all = {-9};
    walk(w, from, 0, 0, 0, (p, s, g, been) -> {
      if (p == to) {
        int between = been & ~(1 << from) & ~(1 << to);
        all[0] = all[0] == -9 ? between : all[0] & between;
      }
    });
    return all[0];
  }

  int[] middle(int place) {
    measure();
    int best = -9;
    int far = 99;
    for (int p = 0; p < 8; p++) {
      if (distance[place][p] >= 0 && Arrays.stream(distance[p]).max().getAsInt() < far) {
        far = Arrays.stream(distance[p]).max().getAsInt();
        best = p;
      }
    }
    return new int[] {best, far};
  }

  // ---- Askings

  int chain(World in, int from, int to, int without) {
    if (from == to) {
      return 0;
    }
    int best = -9;
    for (int p = 0; p < in.size(); p++) {
      if (in.asks(from, p) && (without >> p & 1) == 0) {
        int rest = chain(in, p, to, without | 1 << from);
        best = rest >= 0 && (best < 0 || rest + 1 < best) ? rest + 1 : best;
      }
    }
    return best;
  }

  int echo(int who) {
    return set(w.size(), p -> least(w.size(), q -> w.asks(who, q) && chain(w, q, p, 0) >= 0) >= 0);
  }

  boolean allAsk(int set) {
    for (int a = 0; a < 7; a++) {
      for (int b = 0; b < 7; b++) {
        if (a != b && (set >> a & 1) == 1 && (set >> b & 1) == 1 && !w.asks(a, b)) {
          return false;
        }
      }
    }
    return true;
  }

  int clique() {
    int best = 0;
    for (int s : setsOf((1 << w.size()) - 1)) {
      best = Integer.bitCount(s) > Integer.bitCount(best) && allAsk(s) ? s : best;
    }
    return best;
  }

  int cut(int from, int to) {
    if (w.asks(from, to)) {
      return -9;
    }
    for (int s : setsOf(((1 << w.size()) - 1) & ~(1 << from) & ~(1 << to))) {
      if (chain(w, from, to, s) < 0) {
        return s;
      }
    }
    return -9;
  }

  // ---- Photographs: every order, the first ahead.

  int[] bestOrder;
  int bestSum;

  void orders(int[] order, int n) {
    if (n == order.length) {
      int sum = 0;
      for (int i = 0; i < n; i++) {
        sum += Math.abs(w.at(i).look - row.get(order[i]));
      }
      if (bestOrder == null || sum < bestSum) {
        bestOrder = order.clone();
        bestSum = sum;
      }
      return;
    }
    for (int p = 0; p < order.length; p++) {
      int photo = p;
      if (Arrays.stream(order, 0, n).noneMatch(o -> o == photo)) {
        order[n] = p;
        orders(order, n + 1);
      }
    }
  }

  int photos(int i) {
    bestOrder = null;
    orders(new int[w.size()], 0);
    return i == -1 ? bestSum : i < w.size() ? bestOrder[i] : -9;
  }

  // ---- The row

  boolean fits(int look) {
    for (int i = 0; i < row.size(); i++) {
      if (row.get(i) != 99 && w.at(i).says(look) != row.get(i)) {
        return false;
      }
    }
    return true;
  }

  int kinds(int who) {
    return (int) java.util.stream.IntStream.range(0, 100).filter(this::fits).map(l -> w.at(who).says(l)).distinct().count();
  }

  // ---- The bargain: each offer, both shares

  static int[] bargain(int week, int w, int c) {
    if (week > w) {
      return new int[] {0, 0};
    }
    int hours = Math.max(0, 100 - c * (week - 1));
    int[] waiting = bargain(week + 1, w, c);
    return week % 2 == 1 ? new int[] {hours - waiting[1], waiting[1]} : new int[] {waiting[0], hours - waiting[0]};
  }

  /** The first number at which a measure is least and below a limit, or -9. */
  static int leastBelow(int limit, int n, ToIntFunction<Integer> measure) {
    int best = -9;
    int low = limit;
    for (int i = 0; i < n; i++) {
      int m = measure.applyAsInt(i);
      if (m < low) {
        low = m;
        best = i;
      }
    }
    return best;
  }
}
