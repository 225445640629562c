/** A new object (promise 1), and the 512 calls that one may be used for. */
public final class BoundsOfRunsTest {
  private static final int NONE = ArcheryField.NONE;
  private static final String ONE = "face 1:1;leg 1 1 0;";

  private BoundsOfRunsTest() {
  }

  public static void main(String[] args) {
    newObject();
    newObjectsAreTheirOwn();
    nothingButTheTape();
    feeds();
    rounds();
    archers();
    ends();
    shootOffs();
    days();
    scores();
    layouts();
    lanes();
    undos();
    refusals();
    Check.close("BoundsOfRunsTest");
  }

  private static void due(String why, int got, int want) {
    Check.due(why, got, want);
  }

  /** The last call of a run was the 512th. */
  private static void last(Played x) {
    Check.due("calls of this run", x.calls(), Played.MOST_CALLS);
  }

  private static boolean goesOn(Played x, int calls) {
    return x.calls() + calls < Played.MOST_CALLS;
  }

  /** Looks on until one call is left. */
  private static void upTo511(Played x) {
    while (x.calls() < Played.MOST_CALLS - 1) {
      x.state(0);
    }
  }

  // "No ROUND, ARCHERS, SCORES, LAWS, LANES; TODAY 0."
  private static void newObject() {
    for (int number = -1; number <= 16; number++) {
      int n = number;
      Bound.taken("no ROUND", Bound::nothing, x -> x.of(n), NONE);
      Bound.taken("no ARCHER", Bound::nothing, x -> x.told(n, 0), NONE);
      Bound.taken("nobody to leave", Bound::nothing, x -> x.leave(n), 0);
      Bound.taken("no rank", Bound::nothing, x -> x.rank(n), NONE);
      Bound.taken("no two", Bound::nothing, x -> x.ahead(n, n), -2);
      Bound.taken("no value", Bound::nothing, x -> x.value(n, 0), NONE);
      Bound.taken("no END", Bound::nothing, x -> x.take(n), NONE);
      Bound.taken("no END to come", Bound::nothing, x -> x.shoot(n), -1);
      Bound.taken("no class", Bound::nothing, x -> x.kind(n, 0, 0), NONE);
      Bound.taken("no SCORE", Bound::nothing, x -> x.strike(n, 0), 0);
      Bound.taken("no LANE", Bound::nothing, x -> x.state(n), NONE);
      Bound.taken("no LANE to change", Bound::nothing, x -> x.lane(n, 1), NONE);
      Bound.taken("nobody on a place", Bound::nothing, x -> x.on(n), NONE);
    }
    Bound.taken("the first ARCHER", Bound::nothing, x -> x.archer(0), 0);
    Bound.taken("the first arrow", Bound::nothing, x -> x.arrow(1, 0, 0), 1);
    Bound.taken("the first LAW", Bound::nothing, x -> x.law(1, 1, 0), 1);
    Bound.taken("the first SCORE", x -> x.archer(0), x -> x.score(0, 0, 0), 0);
    Bound.taken("KNOWN from day 0", x -> {
      x.archer(0);
      x.law(1, 1, 0);
      x.score(0, 0, 0);
    }, x -> x.kind(0, 0, 0), 1);
    Bound.taken("TODAY is 0", Bound::nothing, x -> x.today(0), 1);
    Bound.taken("an empty tape", Bound::nothing, x -> x.end(1), 0);
    Bound.taken("nothing to undo", Bound::nothing, Played::undo, NONE);
  }

  private static void newObjectsAreTheirOwn() {
    Bound.same("an object beside another", x -> Bound.rich(new Played()), Bound::nothing, 0);
    Bound.same("one that is used beside another", x -> {
      Played other = new Played();
      Bound.rich(other);
      Bound.rich(x);
      other.leave(0);
      other.undo();
      other.round(ONE);
      other.bay(4);
    }, Bound::rich, 0);
  }

  private static void nothingButTheTape() {
    Bound.same("what was fed and cut", x -> {
      x.feed(-1, -1, -1, -1, -1);
      x.end(0);
    }, Bound::nothing, 0);
  }

  private static void feeds() {
    Played x = new Played();
    for (int bytes = 20; bytes <= 1000; bytes += 20) {
      due("feed", x.feed(0, 0, 0, 0, 0), bytes);
    }
    while (goesOn(x, 1)) {
      due("feed of a full tape", x.feed(0, 0, 0, 0, 0), NONE);
    }
    due("the 512th call", x.end(1000), 1);
    last(x);
  }

  private static void rounds() {
    Played x = new Played();
    for (int a = 0; a < 16; a++) {
      x.archer(0);
    }
    while (goesOn(x, 5)) {
      due("a round", x.round(ONE), 1);
    }
    upTo511(x);
    due("the 512th call", x.of(1), 1);
    last(x);
    Played y = new Played();
    while (goesOn(y, 5)) {
      due("a FAULT", y.round("leg 1 1 0;"), NONE);
    }
    upTo511(y);
    due("the 512th call", y.fault(1), 8);
    last(y);
  }

  private static void archers() {
    Played x = new Played();
    for (int a = 0; a < 16; a++) {
      due("archer", x.archer(a % 8), a);
    }
    while (goesOn(x, 2)) {
      int a = x.calls() % 16;
      due("leave", x.leave(a), 1);
      due("archer", x.archer(7), a);
    }
    upTo511(x);
    due("the 512th call", x.archer(0), NONE);
    last(x);
  }

  private static void ends() {
    Played x = new Played();
    x.round("face 9:1;leg 12 6 0;leg 12 6 0;leg 12 6 0;leg 12 6 0;");
    x.archer(0);
    for (int end = 0; end < 48; end++) {
      due("an END", x.shootAt(0, 0, 0, 0, 0, 0, 0), 6);
    }
    while (goesOn(x, 8)) {
      due("take", x.take(0), 47);
      due("the END again", x.shootAt(0, 0, 0, 0, 0, 0, 10), 5);
    }
    upTo511(x);
    due("the 512th call", x.told(0, 2), 287);
    last(x);
  }

  private static void shootOffs() {
    Played x = new Played();
    x.round(ONE);
    x.archer(0);
    x.shootAt(0, 0);
    for (int k = 1; k <= 8; k++) {
      due("off", x.off(0, 0, k, 0), k);
    }
    while (goesOn(x, 2)) {
      due("undo", x.undo(), 3);
      due("the 8th again", x.off(0, 1, 0, 0), 8);
    }
    upTo511(x);
    due("the 512th call", x.off(0, 0, 0, 0), NONE);
    last(x);
  }

  private static void days() {
    Played x = new Played();
    for (int day = 1; day <= 512; day++) {
      due("today", x.today(day), 1);
    }
    last(x);
  }

  private static void scores() {
    Played x = new Played();
    for (int a = 0; a < 16; a++) {
      x.archer(0);
    }
    for (int k = 0; k < 30; k++) {
      for (int a = 0; a < 16; a++) {
        due("score", x.score(a, 9, 9), k);
      }
    }
    for (int k = 0; k < 6; k++) {
      due("law", x.law(9 - k, 5, 9), k + 1);
    }
    while (goesOn(x, 1)) {
      due("strike", x.strike(15, x.calls() % 30), 1);
    }
    due("the 512th call", x.kind(15, 9, 0), 9);
    last(x);
  }

  private static void layouts() {
    Played x = new Played();
    x.bay(4);
    x.archers(0, 0, 1, 1, 0, 2, 3, 0, 0);
    while (goesOn(x, 1)) {
      due("SPENT", x.layout(), -2);
    }
    due("the 512th call", x.layout(), -2);
    last(x);
    Played y = new Played();
    y.bay(4);
    y.bay(3);
    y.archers(3, 1, 0, 4, 4, 2, 2, 0, 0, 1, 0, 0, 0, 1);
    while (goesOn(y, 1)) {
      due("20000 TRIES", y.layout(), 14);
    }
    due("the 512th call", y.layout(), 14);
    last(y);
  }

  private static void lanes() {
    Played x = new Played();
    x.bay(4);
    x.bay(4);
    for (int i = 0; i < 510; i++) {
      int lane = i / 2 % 8;
      due("lane", x.lane(lane, i % 2 == 0 ? 1 + i / 2 % 2 : 0), i % 2 == 0 ? 0 : 1 + i / 2 % 2);
    }
    last(x);
  }

  private static void undos() {
    Played x = new Played();
    for (int i = 0; i < 256; i++) {
      due("archer", x.archer(i % 8), 0);
      due("undo", x.undo(), 0);
    }
    last(x);
    Played y = new Played();
    for (int i = 0; i < 512; i++) {
      due("undo of none", y.undo(), NONE);
    }
    last(y);
  }

  private static void refusals() {
    Played x = new Played();
    for (int i = 0; i < 511; i++) {
      due("no such CLUB", x.archer(8 + i), NONE);
    }
    due("the 512th call", x.archer(7), 0);
    last(x);
    Played y = new Played();
    for (int i = 0; i < 6; i++) {
      due("arrow", y.arrow(1, 0, 0), i + 1);
    }
    while (goesOn(y, 1)) {
      due("a 7th arrow", y.arrow(1, 0, 0), NONE);
    }
    due("the 512th call", y.shoot(0), -1);
    last(y);
  }
}
