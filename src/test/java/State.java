import java.util.ArrayList;
import java.util.List;

/** All that calls can tell of an object but its REFUSALS, so that two objects can be held beside each other. */
final class State {
  private final List<String> seen = new ArrayList<>();
  private final MirrorsOnStrike x;

  private State(MirrorsOnStrike x) {
    this.x = x;
  }

  /** The object is of no use behind this: its letters, its ROW and what can be TAKEN BACK are gone then. */
  static List<String> of(MirrorsOnStrike x) {
    State state = new State(x);
    state.counts("now");
    state.people("now");
    state.places("now");
    state.row();
    state.past();
    state.letters();
    state.image();
    return state.seen;
  }

  private void saw(String what, int answer) {
    seen.add(what + " " + answer);
  }

  private void counts(String when) {
    for (int what = 0; what <= 7; what++) {
      saw(when + ": count(" + what + ")", x.count(what));
    }
  }

  private void people(String when) {
    int many = x.count(0);
    for (int one = 0; one < many; one++) {
      for (int what = 0; what < 5; what++) {
        saw(when + ": person(" + one + ", " + what + ")", x.person(one, what));
      }
    }
  }

  private void places(String when) {
    for (int place = 0; place < 8; place++) {
      saw(when + ": glances(" + place + ")", x.glances(place, place, 0));
      for (int other = 0; other < place; other++) {
        saw(when + ": steps(" + other + ", " + place + ")", x.steps(other, place));
      }
    }
  }

  private void row() {
    for (int what = 0; what < 3; what++) {
      saw("thief(" + what + ")", x.thief(what));
    }
    saw("photos(-1)", x.photos(-1));
    saw("judge()", x.judge());
  }

  private void past() {
    int many = x.count(0);
    for (int left = x.count(7); left > 0; left--) {
      saw("back()", x.back());
      saw("back: WEEKS", x.count(1));
      for (int one = 0; one < many; one++) {
        saw("back: kind", x.person(one, 0));
        saw("back: figure", x.person(one, 1));
        saw("back: belief", x.person(one, 3));
        saw("back: asks", x.person(one, 4));
      }
    }
  }

  private void letters() {
    saw("town()", x.town());
    counts("town");
    people("town");
  }

  private void image() {
    saw("restore()", x.restore());
    counts("image");
    people("image");
    for (int place = 0; place < 8; place++) {
      saw("image: glances(" + place + ")", x.glances(place, place, 0));
      saw("image: middle(" + place + ")", x.middle(place, 1));
    }
  }
}
