import java.util.ArrayList;
import java.util.List;

/**
 * What an object shows by its calls: what is asked first, then, by calls that change it, what only
 * these show. Some 300 calls, so that what made the object has 200.
 */
final class Picture {
  private static final long OF_ALL_SORTS = 0x4000_8001_8181L;

  private final TwoMoons x;
  private final List<String> shown = new ArrayList<>();

  private Picture(TwoMoons x) {
    this.x = x;
  }

  static List<String> of(TwoMoons x) {
    Picture picture = new Picture(x);
    picture.counts();
    picture.skies();
    picture.deeds();
    picture.promises();
    picture.shelves();
    picture.whatTheyWere();
    picture.changes();
    picture.tape();
    return picture.shown;
  }

  private void shows(String call, long answer) {
    shown.add(call + " = " + answer);
  }

  private void counts() {
    for (int what = 0; what < 8; what++) {
      shows("count " + what, x.count(what));
    }
    for (int i = 0; i < 12; i++) {
      shows("trace " + i, x.trace(i));
    }
    shows("round", x.round());
  }

  private void skies() {
    for (int valley = 0; valley < 5; valley++) {
      for (int hour = 0; hour < 8; hour++) {
        shows("state " + valley + " " + hour, x.state(valley, hour));
      }
    }
  }

  private void deeds() {
    for (int deed = 0; deed < 13; deed++) {
      for (int what = 0; what < 4; what++) {
        shows("of " + deed + " " + what, x.of(deed, what));
      }
    }
    for (int deed = 0; deed < 5; deed++) {
      shows("may " + deed + " in 4", x.may(10 * deed, 4));
      shows("may " + deed + " in 10", x.may(10 * deed + 1, 10));
    }
  }

  private void promises() {
    shows("judge", x.judge());
    for (int promise = 0; promise < 4; promise++) {
      shows("dated " + promise, x.dated(promise));
      shows("claims " + promise, x.claims(promise, 9));
    }
  }

  private void shelves() {
    for (int shelf = 0; shelf < 6; shelf++) {
      shows("taken " + shelf, x.taken(shelf, 0));
      for (int i = 0; i < 6; i++) {
        shows("element " + shelf + " " + i, x.element(shelf, i));
      }
      shows("put " + shelf, x.put(shelf, 0, OF_ALL_SORTS));
      shows("what it kept " + shelf, x.element(shelf, 0));
    }
  }

  private void whatTheyWere() {
    for (int vm = 0; vm < 50; vm += vm % 10 == 2 ? 8 : 1) {
      shows("hills " + vm, x.hills(vm, 0));
    }
    for (int a = 0; a < 5; a++) {
      for (int b = 0; b < a; b++) {
        shows("way " + a + b, x.way(10 * a + b, 0));
      }
    }
  }

  private void changes() {
    for (int i = 0; i <= 40 && x.count(5) > 0; i++) {
      shows("undo", x.undo());
    }
    changed();
    for (int i = 0; i <= 40; i++) {
      int left = x.redo();
      shows("redo", left);
      i = left < 0 ? 40 : i;
    }
    changed();
  }

  private void changed() {
    for (int hour = 0; hour < 10; hour++) {
      shows("state in " + hour, x.state(0, hour));
    }
    for (int deed = 0; deed < 3; deed++) {
      shows("hours of " + deed, x.of(deed, 1));
      shows("over of " + deed, x.of(deed, 3));
    }
  }

  private void tape() {
    shows("feed", x.feed('k'));
    shows("law", x.law(0));
    for (int hour = 0; hour < 3; hour++) {
      shows("costs in " + hour, x.costs(0, 0, hour));
    }
  }
}
