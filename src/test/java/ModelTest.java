import java.util.Arrays;
import java.util.Random;

/** Runs of calls by lot, each answer held beside the model's. */
public final class ModelTest {
  private static final int RUNS = 700;
  /** What an object answers behind its 512th call is free: none of what is done at once takes more than the rest. */
  private static final int CALLS = 512 - 160;
  private static final Check check = new Check();

  private final Random lot;
  private final MirrorsOnStrike x = new MirrorsOnStrike();
  private final Model m = new Model();
  private final boolean wild;
  private int made;

  private ModelTest(int run) {
    lot = new Random(run);
    wild = run % 8 == 0;
  }

  public static void main(String[] args) {
    for (int run = 0; run < RUNS; run++) {
      ModelTest test = new ModelTest(run);
      while (test.made < CALLS) {
        test.call("run " + run + ", call " + test.made);
      }
    }
    check.end("ModelTest");
  }

  /** Mostly least .. most, now and then one beyond either end. */
  private int pick(int least, int most) {
    if (lot.nextInt(wild ? 6 : 40) == 0) {
      return lot.nextBoolean() ? least - 1 : most + 1;
    }
    return least + lot.nextInt(most - least + 1);
  }

  private int who() {
    return pick(0, Math.max(0, m.w.size() - 1));
  }

  private void is(String call, int got, int due) {
    made++;
    check.is(call, got, due);
  }

  private void call(String at) {
    int kind = lot.nextInt(66);
    if (kind < 16) {
      change(at, kind);
    } else if (kind < 30) {
      ahead(at, kind - 16);
    } else if (kind < 45) {
      asking(at, kind - 30);
    } else if (kind < 55) {
      places(at, kind - 45);
    } else {
      rows(at, kind - 55);
    }
  }

  private void change(String at, int kind) {
    switch (kind) {
      case 0, 1 -> comes(at);
      case 2, 3, 4 -> asks(at);
      case 5 -> believes(at);
      case 6 -> kind(at);
      case 7, 8 -> way(at);
      case 9 -> hangs(at);
      case 10 -> week(at);
      case 11 -> back(at);
      case 12 -> town(at);
      case 13 -> says(at);
      case 14 -> person(at);
      default -> image(at);
    }
  }

  private void comes(String at) {
    if (m.w.size() > 2 && lot.nextInt(wild ? 2 : 6) != 0) {
      asks(at);
      return;
    }
    int k = pick(0, 5);
    int f = pick(0, 9);
    int l = pick(0, 99);
    int no = Model.firstOf(Model.checkWhat(k, 5), Model.checkRange(f, 0, 9, l, 0, 99, m.w.size() + 1, 0, 7));
    int due = no;
    if (no == 0) {
      m.past.clear();
      Model.One one = new Model.One();
      one.kind = k;
      one.figure = f;
      one.look = l;
      one.belief = l;
      m.w.people.add(one);
      due = m.w.size() - 1;
    } else {
      m.no(no);
    }
    is(at + " comes(" + k + ", " + f + ", " + l + ")", x.comes(k, f, l), due);
  }

  private void asks(String at) {
    int a = who();
    int b = who();
    int due = m.checkPerson(a, b);
    if (due == 0) {
      m.keep();
      m.w.at(a).asks[b] = !m.w.at(a).asks[b];
      due = m.w.asks(a, b) ? 1 : 0;
    } else {
      m.no(due);
    }
    is(at + " asks(" + a + ", " + b + ")", x.asks(a, b), due);
  }

  private void believes(String at) {
    int a = who();
    int v = pick(0, 99);
    int due = Model.firstOf(m.checkPerson(a), Model.checkRange(v, 0, 99));
    if (due == 0) {
      m.keep();
      due = m.w.at(a).belief;
      m.w.at(a).belief = v;
    } else {
      m.no(due);
    }
    is(at + " believes(" + a + ", " + v + ")", x.believes(a, v), due);
  }

  private void kind(String at) {
    int a = who();
    int k = pick(0, 5);
    int f = pick(0, 9);
    int due = Model.firstOf(m.checkPerson(a), Model.checkWhat(k, 5), Model.checkRange(f, 0, 9));
    if (due == 0) {
      m.keep();
      due = 10 * m.w.at(a).kind + m.w.at(a).figure;
      m.w.at(a).kind = k;
      m.w.at(a).figure = f;
    } else {
      m.no(due);
    }
    is(at + " kind(" + a + ", " + k + ", " + f + ")", x.kind(a, k, f), due);
  }

  private void way(String at) {
    int a = pick(0, 7);
    int b = pick(0, 7);
    int due = Model.checkPlace(true, a, b);
    if (due == 0) {
      m.past.clear();
      m.w.way[a][b] = !m.w.way[a][b];
      m.w.way[b][a] = m.w.way[a][b];
      due = m.w.way[a][b] ? 1 : 0;
    } else {
      m.no(due);
    }
    is(at + " way(" + a + ", " + b + ")", x.way(a, b), due);
  }

  private void hangs(String at) {
    int a = pick(0, 7);
    int g = pick(0, 3);
    int due = Model.firstOf(Model.checkPlace(false, a), Model.checkWhat(g, 3));
    if (due == 0) {
      m.past.clear();
      due = m.w.hung[a];
      m.w.hung[a] = g;
    } else {
      m.no(due);
    }
    is(at + " hangs(" + a + ", " + g + ")", x.hangs(a, g), due);
  }

  private void week(String at) {
    int due;
    if (m.w.weeks == 999) {
      due = m.no(-6);
    } else {
      m.keep();
      int[] was = m.w.beliefs();
      m.w.week();
      due = unlike(was, m.w.beliefs());
    }
    is(at + " week()", x.week(), due);
  }

  private static int unlike(int[] one, int[] other) {
    return Integer.bitCount(Model.set(one.length, i -> one[i] != other[i]));
  }

  private void back(String at) {
    int due;
    if (m.past.isEmpty()) {
      due = m.no(-3);
    } else {
      m.w = m.past.remove(m.past.size() - 1);
      due = m.past.size();
    }
    is(at + " back()", x.back(), due);
  }

  private void town(String at) {
    String text = text();
    for (int i = 0; i < text.length(); i++) {
      int due = m.letters.length() + 1;
      if (due > 96) {
        due = m.no(-6);
      } else {
        m.letters.append(text.charAt(i));
      }
      is(at + " feed", x.feed(text.charAt(i)), due);
    }
    if (lot.nextInt(4) != 0) {
      is(at + " town() of " + m.letters, x.town(), m.town());
    }
  }

  private String text() {
    StringBuilder text = new StringBuilder();
    int many = lot.nextInt(wild ? 25 : 6);
    for (int i = 0; i < many; i++) {
      String kinds = "pabwgn";
      char kind = kinds.charAt(lot.nextInt(6));
      int digits = kind == 'p' ? 4 : kind == 'b' ? 3 : kind == 'n' ? 1 : 2;
      text.append(kind);
      for (int d = 0; d < digits; d++) {
        text.append((char) ('0' + lot.nextInt(lot.nextInt(8) == 0 ? 10 : d == 1 ? 4 : 3)));
      }
      text.append(';');
    }
    if (text.length() > 0 && lot.nextInt(6) == 0) {
      text.setCharAt(lot.nextInt(text.length()), (char) lot.nextInt(256));
    }
    if (text.length() > 0 && lot.nextInt(8) == 0) {
      text.setLength(lot.nextInt(text.length()));
    }
    return text.toString();
  }

  private void says(String at) {
    int a = who();
    int b = who();
    int no = m.checkPerson(a, b);
    is(at + " says(" + a + ", " + b + ")", x.says(a, b), no != 0 ? m.no(no) : m.w.at(a).says(m.w.at(b).look));
    int v = pick(0, 99);
    no = Model.firstOf(m.checkPerson(a), Model.checkRange(v, 0, 99));
    is(at + " saysOf(" + a + ", " + v + ")", x.saysOf(a, v), no != 0 ? m.no(no) : m.w.at(a).says(v));
  }

  private void person(String at) {
    int a = who();
    int what = pick(0, 4);
    int no = Model.firstOf(m.checkPerson(a), Model.checkWhat(what, 4));
    int due;
    if (no != 0) {
      due = m.no(no);
    } else {
      Model.One one = m.w.at(a);
      due = new int[] {one.kind, one.figure, one.look, one.belief, Model.set(7, i -> one.asks[i])}[what];
    }
    is(at + " person(" + a + ", " + what + ")", x.person(a, what), due);
    counts(at);
  }

  private void counts(String at) {
    int looks = m.w.people.stream().mapToInt(o -> o.look).sum();
    int ways = 0;
    for (boolean[] from : m.w.way) {
      for (boolean way : from) {
        ways += way ? 1 : 0;
      }
    }
    int[] due = {m.w.size(), m.w.weeks, looks, Arrays.stream(m.w.beliefs()).sum(), ways / 2, m.letters.length(),
      m.row.size(), m.past.size(), -9, -9, -9, m.refusals[1], m.refusals[2], m.refusals[3], m.refusals[4], m.refusals[5], m.refusals[6], -9};
    for (int what = 0; what < due.length; what++) {
      is(at + " count(" + what + ")", x.count(what), due[what]);
    }
  }

  private void image(String at) {
    if (lot.nextInt(3) == 0) {
      m.image = m.w.copy();
      is(at + " image()", x.image(), m.w.weeks);
    } else if (m.image == null) {
      is(at + " restore()", x.restore(), m.no(-3));
    } else {
      m.w = m.image.copy();
      m.past.clear();
      is(at + " restore()", x.restore(), m.w.weeks);
    }
  }

  private void ahead(String at, int kind) {
    switch (kind) {
      case 0 -> belief(at);
      case 1 -> fooled(at);
      case 2 -> error(at);
      case 3 -> clash(at);
      case 4 -> settles(at);
      case 5 -> round(at);
      case 6 -> worth(at);
      case 7 -> newEar(at);
      case 8 -> sisters(at);
      case 9 -> humble(at);
      case 10 -> spread(at);
      case 11 -> calm(at);
      case 12 -> wanted(at);
      default -> changed(at);
    }
  }

  private int weeks() {
    return lot.nextInt(3) == 0 ? pick(0, 60) : pick(0, 5);
  }

  private int width() {
    return lot.nextInt(3) == 0 ? pick(0, 99) : pick(0, 20);
  }

  private void belief(String at) {
    int a = who();
    int n = weeks();
    int no = Model.firstOf(m.checkPerson(a), Model.checkRange(n, 0, 60));
    is(at + " belief(" + a + ", " + n + ")", x.belief(a, n), no != 0 ? m.no(no) : m.w.behind(n).at(a).belief);
  }

  private void fooled(String at) {
    int n = weeks();
    int d = width();
    int no = Model.checkRange(n, 0, 60, d, 0, 99);
    is(at + " fooled(" + n + ", " + d + ")", x.fooled(n, d), no != 0 ? m.no(no) : m.w.behind(n).fooled(d));
  }

  private void error(String at) {
    int n = weeks();
    int no = Model.checkRange(n, 0, 60);
    is(at + " error(" + n + ")", x.error(n), no != 0 ? m.no(no) : m.w.behind(n).error());
  }

  private void clash(String at) {
    int d = width();
    int what = pick(0, 1);
    int no = Model.firstOf(Model.checkRange(d, 0, 99), Model.checkWhat(what, 1));
    int due;
    if (no != 0) {
      due = m.no(no);
    } else {
      due = Model.least(61, n -> m.w.behind(n).fooled(d) != 0);
      if (what == 1 && due >= 0) {
        Model.World then = m.w.behind(due);
        due = Model.least(7, i -> (then.fooled(d) >> i & 1) == 1);
      }
    }
    is(at + " clash(" + d + ", " + what + ")", x.clash(d, what), due);
  }

  private boolean same(int n, int k) {
    return unlike(m.w.behind(n).beliefs(), m.w.behind(k).beliefs()) == 0;
  }

  private void settles(String at) {
    is(at + " settles()", x.settles(), Model.least(61, n -> same(n, n + 1)));
  }

  private void round(String at) {
    int period = Model.least(61, n -> n > 0 && same(60, 60 + n));
    is(at + " round()", x.round(), period);
  }

  private void worth(String at) {
    int a = who();
    int n = weeks();
    int no = Model.firstOf(m.checkPerson(a), Model.checkRange(n, 0, 60));
    int due;
    if (no != 0) {
      due = 1000000000 - m.no(no);
    } else {
      Model.World other = m.w.copy();
      other.people.forEach(o -> o.asks[a] = false);
      due = other.behind(n).error() - m.w.behind(n).error();
    }
    is(at + " worth(" + a + ", " + n + ")", x.worth(a, n), due);
  }

  private void newEar(String at) {
    int n = weeks();
    int no = Model.checkRange(n, 0, 60);
    int due = no != 0 ? m.no(no) : Model.leastBelow(m.w.behind(n).error(), 70, two -> {
      if (m.checkPerson(two / 10, two % 10) != 0 || m.w.asks(two / 10, two % 10)) {
        return Integer.MAX_VALUE;
      }
      Model.World other = m.w.copy();
      other.at(two / 10).asks[two % 10] = true;
      return other.behind(n).error();
    });
    is(at + " newEar(" + n + ")", x.newEar(n), due);
  }

  private void sisters(String at) {
    int a = who();
    int b = who();
    int n = weeks();
    int what = pick(0, 1);
    int no = Model.firstOf(m.checkPerson(a, b), Model.checkRange(n, 0, 60), Model.checkWhat(what, 1));
    int due = 0;
    if (no != 0) {
      due = m.no(no);
    } else {
      Model.World other = m.w.asking(a, 1 << b).asking(b, 1 << a);
      for (int k = what == 0 ? n : 0; k <= n; k++) {
        int[] then = other.behind(k).beliefs();
        due = Math.max(due, Math.abs(then[a] - then[b]));
      }
    }
    is(at + " sisters(" + a + ", " + b + ", " + n + ", " + what + ")", x.sisters(a, b, n, what), due);
  }

  private Model.World withFigure(int a, int v) {
    Model.World other = m.w.copy();
    other.at(a).figure = v;
    return other;
  }

  private void humble(String at) {
    int n = weeks();
    int no = Model.checkRange(n, 0, 60);
    int due = no != 0 ? m.no(no)
        : Model.leastBelow(m.w.behind(n).error(), m.w.size(), a -> withFigure(a, 0).behind(n).error());
    is(at + " humble(" + n + ")", x.humble(n), due);
  }

  private void spread(String at) {
    int n = weeks();
    int no = Model.checkRange(n, 0, 60);
    int due = no;
    if (no != 0) {
      m.no(no);
    } else {
      int[] sorted = m.w.behind(n).beliefs();
      Arrays.sort(sorted);
      due = sorted.length == 0 ? 0 : sorted[sorted.length - 1] - sorted[0];
    }
    is(at + " spread(" + n + ")", x.spread(n), due);
  }

  private void calm(String at) {
    int d = width();
    int no = Model.checkRange(d, 0, 99);
    int due = no != 0 ? m.no(no) : Model.least(61, n -> {
      int[] then = m.w.behind(n).beliefs();
      int[] next = m.w.behind(n + 1).beliefs();
      boolean still = Model.set(then.length, i -> Math.abs(then[i] - next[i]) > d) == 0;
      return still && m.w.behind(n).fooled(d) != 0;
    });
    is(at + " calm(" + d + ")", x.calm(d), due);
  }

  private void wanted(String at) {
    int a = who();
    int v = pick(0, 99);
    int no = Model.firstOf(m.checkPerson(a), Model.checkRange(v, 0, 99));
    int due = no != 0 ? m.no(no) : Model.least(61, n -> m.w.behind(n).at(a).belief >= v);
    is(at + " wanted(" + a + ", " + v + ")", x.wanted(a, v), due);
  }

  private void changed(String at) {
    int a = who();
    int n = weeks();
    int v = pick(0, 9);
    int no = Model.firstOf(m.checkPerson(a), Model.checkRange(n, 0, 60, v, 0, 9));
    int due = no != 0 ? m.no(no) : unlike(m.w.behind(n).beliefs(), withFigure(a, v).behind(n).beliefs());
    is(at + " changed(" + a + ", " + n + ", " + v + ")", x.changed(a, n, v), due);
  }

  private void asking(String at, int kind) {
    switch (kind) {
      case 0 -> knows(at);
      case 1 -> nearest(at);
      case 2 -> fair(at);
      case 3 -> cheat(at);
      case 4 -> barber(at);
      case 5 -> echo(at);
      case 6 -> loops(at);
      case 7 -> highest(at);
      case 8 -> pairs(at);
      case 9 -> honest(at);
      case 10 -> chain(at);
      case 11 -> is(at + " clique()", x.clique(), m.clique());
      case 12 -> cut(at);
      default -> panel(at);
    }
  }

  private int far(int a, int set) {
    return Math.abs(m.beliefWith(a, set) - m.w.at(a).look);
  }

  private void knows(String at) {
    int a = who();
    int no = m.checkPerson(a);
    int due = no;
    if (no != 0) {
      m.no(no);
    } else if (m.w.at(a).belief != m.w.at(a).look) {
      due = m.askable(a).stream().filter(s -> far(a, s) == 0).findFirst().orElse(-9);
    }
    is(at + " knows(" + a + ")", x.knows(a), due);
  }

  private void nearest(String at) {
    int a = who();
    int what = pick(0, 1);
    int no = Model.firstOf(m.checkPerson(a), Model.checkWhat(what, 1));
    int due = -9;
    if (no != 0) {
      due = m.no(no);
    } else {
      int near = 100;
      for (int s : m.askable(a)) {
        if (far(a, s) < near) {
          near = far(a, s);
          due = what == 0 ? s : near;
        }
      }
    }
    is(at + " nearest(" + a + ", " + what + ")", x.nearest(a, what), due);
  }

  private void fair(String at) {
    int a = who();
    int k = pick(1, 6);
    int d = width();
    int no = Model.firstOf(m.checkPerson(a), Model.checkRange(k, 1, 6, d, 0, 99));
    int due = no != 0 ? m.no(no)
        : (int) m.askable(a).stream().filter(s -> Integer.bitCount(s) == k && far(a, s) <= d).count();
    is(at + " fair(" + a + ", " + k + ", " + d + ")", x.fair(a, k, d), due);
  }

  private int withLook(int a, int look) {
    Model.World other = m.w.copy();
    other.at(a).look = look;
    other.week();
    return other.at(a).belief;
  }

  private int askingOne(int a) {
    return Model.set(7, i -> m.w.at(a).asks[i]) == 0 ? -3 : 0;
  }

  private void cheat(String at) {
    int a = who();
    int v = pick(0, 99);
    int what = pick(0, 1);
    int no = Model.firstOf(m.checkPerson(a), Model.checkRange(v, 0, 99), Model.checkWhat(what, 1));
    no = no != 0 ? no : askingOne(a);
    int due = no;
    if (no != 0) {
      m.no(no);
    } else if (what == 1) {
      due = Model.least(100, l -> withLook(a, l) == v);
    } else {
      due = (int) java.util.stream.IntStream.range(0, 100).filter(l -> withLook(a, l) == v).count();
    }
    is(at + " cheat(" + a + ", " + v + ", " + what + ")", x.cheat(a, v, what), due);
  }

  private void barber(String at) {
    int a = who();
    int v = pick(0, 99);
    int no = Model.firstOf(m.checkPerson(a), Model.checkRange(v, 0, 99));
    no = no != 0 ? no : askingOne(a);
    int due = no;
    if (no != 0) {
      m.no(no);
    } else {
      int look = m.w.at(a).look;
      due = Model.least(100, by -> look + by < 100 && withLook(a, look + by) >= v || look - by >= 0 && withLook(a, look - by) >= v);
    }
    is(at + " barber(" + a + ", " + v + ")", x.barber(a, v), due);
  }

  private void echo(String at) {
    int a = who();
    int no = m.checkPerson(a);
    is(at + " echo(" + a + ")", x.echo(a), no != 0 ? m.no(no) : m.echo(a));
  }

  private void loops(String at) {
    int what = pick(0, 2);
    int no = Model.checkWhat(what, 2);
    int n = m.w.size();
    int due = no != 0 ? m.no(no)
        : what == 0 ? Model.set(n, i -> (m.echo(i) >> i & 1) == 1)
        : what == 1 ? Model.set(n, i -> Model.set(n, j -> m.w.asks(i, j)) == 0)
        : Model.set(n, i -> Model.set(n, j -> m.w.asks(j, i)) == 0);
    is(at + " loops(" + what + ")", x.loops(what), due);
  }

  private void highest(String at) {
    int a = who();
    int what = pick(0, 1);
    int no = Model.firstOf(m.checkPerson(a), Model.checkWhat(what, 1));
    int due = -9;
    if (no != 0) {
      due = m.no(no);
    } else {
      for (int s : m.askable(a)) {
        int then = m.beliefWith(a, s);
        due = due == -9 ? then : what == 0 ? Math.max(due, then) : Math.min(due, then);
      }
    }
    is(at + " highest(" + a + ", " + what + ")", x.highest(a, what), due);
  }

  private void pairs(String at) {
    int[] b = m.w.beliefs();
    int due = Model.leastBelow(1, 70, two -> {
      int i = two / 10;
      int j = two % 10;
      boolean pair = i < j && m.checkPerson(i, j) == 0 && m.w.asks(i, j) && m.w.asks(j, i);
      return pair ? -Math.abs(b[i] - b[j]) : 1;
    });
    is(at + " pairs()", x.pairs(), due);
  }

  private int untruth(int a) {
    int sum = 0;
    for (int i = 0; i < m.w.size(); i++) {
      sum += i == a ? 0 : Math.abs(m.w.at(a).says(m.w.at(i).look) - m.w.at(i).look);
    }
    return sum;
  }

  private void honest(String at) {
    int what = pick(0, 1);
    int no = Model.checkWhat(what, 1);
    int due = no;
    if (no != 0) {
      m.no(no);
    } else {
      due = m.w.size() < 2 ? -9 : Model.leastBelow(Integer.MAX_VALUE, m.w.size(), this::untruth);
      due = what == 1 && due >= 0 ? untruth(due) : due;
    }
    is(at + " honest(" + what + ")", x.honest(what), due);
  }

  private void chain(String at) {
    int a = who();
    int b = who();
    int no = m.checkPerson(a, b);
    is(at + " chain(" + a + ", " + b + ")", x.chain(a, b), no != 0 ? m.no(no) : m.chain(m.w, a, b, 0));
  }

  private void cut(String at) {
    int a = who();
    int b = who();
    int no = m.checkPerson(a, b);
    is(at + " cut(" + a + ", " + b + ")", x.cut(a, b), no != 0 ? m.no(no) : m.cut(a, b));
  }

  private void panel(String at) {
    int a = who();
    int k = pick(1, 6);
    int no = Model.firstOf(m.checkPerson(a), Model.checkRange(k, 1, 6));
    int due = -9;
    if (no != 0) {
      due = m.no(no);
    } else {
      int most = -1;
      for (int s : m.askable(a)) {
        if (Integer.bitCount(s) == k && m.beliefWith(a, s) > most) {
          most = m.beliefWith(a, s);
          due = s;
        }
      }
    }
    is(at + " panel(" + a + ", " + k + ")", x.panel(a, k), due);
  }

  private void places(String at, int kind) {
    switch (kind) {
      case 0 -> steps(at);
      case 1, 2 -> glances(at);
      case 3 -> unseen(at);
      case 4 -> cover(at);
      case 5 -> tour(at);
      case 6 -> narrows(at);
      case 7 -> middle(at);
      case 8 -> bargain(at);
      default -> strike(at);
    }
  }

  private void steps(String at) {
    int a = pick(0, 7);
    int b = pick(0, 7);
    int no = Model.checkPlace(false, a, b);
    is(at + " steps(" + a + ", " + b + ")", x.steps(a, b), no != 0 ? m.no(no) : m.stepsBetween(a, b));
  }

  private void glances(String at) {
    int a = pick(0, 7);
    int b = pick(0, 7);
    int what = pick(0, 1);
    int no = Model.firstOf(Model.checkPlace(false, a, b), Model.checkWhat(what, 1));
    int due = no;
    if (no != 0) {
      m.no(no);
    } else {
      due = m.seenBetween(m.w, a, b);
      due = due < 0 ? -9 : what == 0 ? due / 100 : due % 100;
    }
    is(at + " glances(" + a + ", " + b + ", " + what + ")", x.glances(a, b, what), due);
  }

  private void unseen(String at) {
    int a = pick(0, 7);
    int no = Model.checkPlace(false, a);
    is(at + " unseen(" + a + ")", x.unseen(a), no != 0 ? m.no(no) : m.unseen(a));
  }

  private void cover(String at) {
    int a = pick(0, 7);
    int b = pick(0, 7);
    int no = Model.checkPlace(false, a, b);
    is(at + " cover(" + a + ", " + b + ")", x.cover(a, b), no != 0 ? m.no(no) : m.cover(a, b));
  }

  private void tour(String at) {
    int a = pick(0, 7);
    int set = pick(0, 255);
    int no = Model.firstOf(Model.checkPlace(false, a), Model.checkRange(set, 0, 255));
    m.measure();
    is(at + " tour(" + a + ", " + set + ")", x.tour(a, set), no != 0 ? m.no(no) : m.tour(a, set));
  }

  private void narrows(String at) {
    int a = pick(0, 7);
    int b = pick(0, 7);
    int no = Model.checkPlace(true, a, b);
    is(at + " narrows(" + a + ", " + b + ")", x.narrows(a, b), no != 0 ? m.no(no) : m.narrows(a, b));
  }

  private void middle(String at) {
    int a = pick(0, 7);
    int what = pick(0, 1);
    int no = Model.firstOf(Model.checkPlace(false, a), Model.checkWhat(what, 1));
    is(at + " middle(" + a + ", " + what + ")", x.middle(a, what), no != 0 ? m.no(no) : m.middle(a)[what]);
  }

  private void bargain(String at) {
    int weeks = pick(1, 20);
    int c = pick(0, 50);
    int no = Model.checkRange(weeks, 1, 20, c, 0, 50);
    is(at + " bargain(" + weeks + ", " + c + ")", x.bargain(weeks, c), no != 0 ? m.no(no) : Model.bargain(1, weeks, c)[0]);
  }

  private void strike(String at) {
    int c = pick(0, 50);
    int no = Model.checkRange(c, 0, 50);
    int due = no != 0 ? m.no(no) : 1 + Model.leastBelow(1, 20, weeks -> -Model.bargain(1, weeks + 1, c)[0]);
    is(at + " strike(" + c + ")", x.strike(c), due);
  }

  private void rows(String at, int kind) {
    switch (kind) {
      case 0, 1, 2 -> row(at);
      case 3 -> judge(at);
      case 4 -> clear(at);
      case 5, 6 -> thief(at);
      case 7 -> tellsMost(at);
      case 8, 9 -> photos(at);
      default -> lots(at);
    }
  }

  private void row(String at) {
    boolean fitting = m.row.size() < m.w.size() && lot.nextInt(3) != 0;
    int v = pick(0, 99);
    if (fitting) {
      Model.One next = m.w.at(m.row.size());
      v = lot.nextInt(3) == 0 ? 99 : lot.nextBoolean() ? next.belief : next.says(m.w.at(0).look);
    }
    int no = Model.checkRange(v, 0, 99, m.row.size() + 1, 0, 12);
    if (no == 0) {
      m.row.add(v);
    }
    is(at + " row(" + v + ")", x.row(v), no != 0 ? m.no(no) : m.row.size());
  }

  private void judge(String at) {
    int due = Model.least(m.row.size(), i -> i >= m.w.size() || m.w.at(i).belief != m.row.get(i));
    m.row.clear();
    is(at + " judge()", x.judge(), due);
  }

  private void clear(String at) {
    if (m.row.size() < m.w.size() && lot.nextInt(3) != 0) {
      row(at);
      return;
    }
    int due = m.row.size();
    m.row.clear();
    is(at + " clear()", x.clear(), due);
  }

  private void thief(String at) {
    int what = pick(0, 2);
    int no = Model.firstOf(Model.checkWhat(what, 2), m.row.size() > m.w.size() ? -3 : 0);
    int due = no;
    if (no != 0) {
      m.no(no);
    } else {
      due = what == 0 ? (int) java.util.stream.IntStream.range(0, 100).filter(m::fits).count()
          : what == 1 ? Model.least(100, m::fits)
          : Model.set(m.w.size(), i -> m.fits(m.w.at(i).look));
    }
    is(at + " thief(" + what + ")", x.thief(what), due);
  }

  private void tellsMost(String at) {
    int what = pick(0, 1);
    int no = Model.firstOf(Model.checkWhat(what, 1), m.row.size() > m.w.size() || m.w.size() == 0 ? -3 : 0);
    int due = no;
    if (no != 0) {
      m.no(no);
    } else {
      due = Model.leastBelow(0, m.w.size(), i -> -m.kinds(i));
      due = due >= 0 && what == 1 ? m.kinds(due) : due;
    }
    is(at + " tellsMost(" + what + ")", x.tellsMost(what), due);
  }

  private void photos(String at) {
    while (m.row.size() < m.w.size() && lot.nextInt(8) != 0) {
      row(at);
    }
    int i = pick(-1, 7);
    int no = i < -1 ? -4 : m.row.size() != m.w.size() ? -3 : 0;
    is(at + " photos(" + i + ")", x.photos(i), no != 0 ? m.no(no) : m.photos(i));
  }

  private void lots(String at) {
    int n = pick(1, 20);
    int z = lot.nextInt();
    int what = pick(0, 1);
    int no = Model.firstOf(Model.checkRange(n, 1, 20), Model.checkWhat(what, 1));
    int due = 0;
    if (no != 0) {
      due = m.no(no);
    } else {
      long seed = z;
      for (int time = 0; time < n; time++) {
        Model.World other = m.w.copy();
        for (int i = 0; i < other.size(); i++) {
          seed = (seed * 1103515245L + 12345L) % (1L << 32);
          long draw = Math.floorMod(seed, 1L << 31) / 65536 % 128;
          for (int j = 0; j < other.size(); j++) {
            other.at(i).asks[j] = i != j && (draw >> j & 1) == 1;
          }
        }
        other = other.behind(10);
        due += what == 0 ? other.error() : other.fooled(5) == 0 ? 1 : 0;
      }
    }
    is(at + " lots(" + n + ", " + z + ", " + what + ")", x.lots(n, z, what), due);
  }
}
