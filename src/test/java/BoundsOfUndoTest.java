/** The boundary cases of undo(): promise 27. */
public final class BoundsOfUndoTest {
  private static final int NONE = ArcheryField.NONE;
  private static final String NEAREST = "face 100:5 50:6;leg 2 1 0;nearest;bounced 3;";

  /** Changes of every kind that undo() takes back, some of them more than once. */
  private static final Bound.Calls[] CHANGES = {
      x -> x.archer(3),
      x -> x.round(NEAREST),
      x -> x.archer(4),
      x -> x.shootAt(0, 50),
      x -> x.shootAt(0, 101),
      x -> x.off(0, 0, 3, 4),
      x -> x.take(0),
      x -> x.shootAt(0, 0),
      x -> x.archer(3),
      x -> x.bay(2),
      x -> x.layout(),
      x -> x.lane(1, 1),
      x -> x.bay(1),
      x -> x.lane(2, 2),
      x -> x.layout(),
      x -> x.leave(1),
      x -> x.layout(),
      x -> x.archer(7),
      x -> x.law(2, 1, 500),
      x -> x.score(0, 10, 500),
      x -> x.today(50),
      x -> x.score(0, 400, 600),
      x -> x.strike(0, 0),
      x -> x.today(60),
      x -> x.strike(0, 1),
      x -> x.law(9, 1, 0),
      x -> x.score(1, 374, 1),
      x -> x.lane(1, 0),
      x -> x.lane(2, 0),
      x -> x.shootAt(2, 50),
      x -> x.take(0),
      x -> x.shootMissed(0, 1),
      x -> x.off(0, 1, 0, 0),
      x -> x.leave(0),
      x -> x.archer(0),
      x -> x.round("face 9:9;leg 1 1 0;"),
      x -> x.shootAt(2, 9),
      x -> x.off(2, 0, 1, 1),
      x -> x.round(NEAREST)};

  private BoundsOfUndoTest() {
  }

  public static void main(String[] args) {
    noneOfANewOne();
    howManyMore();
    theLatestFour();
    anewBehindUndo();
    manyChanges();
    onlyThese();
    arrowsStay();
    arrowsOfTheEndDoNotComeBack();
    tapeAndFaultStay();
    refusedCallsAreNoChanges();
    Check.close("BoundsOfUndoTest");
  }

  private static void due(String why, int got, int want) {
    Check.due(why, got, want);
  }

  private static void change(Played x, int from, int to) {
    for (int i = from; i < to; i++) {
      CHANGES[i].on(x);
    }
  }

  private static void back(Played x, int times) {
    for (int i = 0; i < times; i++) {
      x.undo();
    }
  }

  // "NONE when there is none."
  private static void noneOfANewOne() {
    Bound.refused("undo() of a new one", Bound::nothing, Played::undo, NONE);
    Bound.refused("undo() behind calls that are no changes", x -> {
      x.arrow(0, 0, 0);
      x.feed("face 1:1;leg 2 1 0; ", 0);
      x.of(0);
    }, Played::undo, NONE);
    Bound.refused("undo() behind the last one", x -> {
      x.archer(0);
      x.undo();
    }, Played::undo, NONE);
  }

  // "how many more can be", "(the latest four)"
  private static void howManyMore() {
    for (int changes = 0; changes <= 9; changes++) {
      int made = changes;
      Played x = new Played();
      change(x, 0, changes);
      for (int more = Math.min(4, changes) - 1; more >= 0; more--) {
        due("undo() of " + changes, x.undo(), more);
      }
      due("undo() of none of " + changes, x.undo(), NONE);
      due("and again", x.undo(), NONE);
      Bound.refused("one more than can be, of " + changes, y -> {
        change(y, 0, made);
        back(y, Math.min(4, made));
      }, Played::undo, NONE);
    }
  }

  // "The latest change that was done by round(), archer(), leave(), shoot(), take(), off(),
  // score(), strike(), law(), bay(), layout(), lane(), today() .. is taken back"
  private static void theLatestFour() {
    for (int made = 1; made <= CHANGES.length; made++) {
      for (int times = 1; times <= 4 && times <= made; times++) {
        int to = made;
        int undone = times;
        Bound.same("undo() " + times + " times behind " + made + " changes", x -> {
          change(x, 0, to);
          back(x, undone);
        }, x -> change(x, 0, to - undone), Look.UNDO);
      }
    }
  }

  private static void anewBehindUndo() {
    for (int made = 4; made <= CHANGES.length; made++) {
      for (int times = 1; times <= 4; times++) {
        int to = made;
        int undone = times;
        Bound.same("the same again behind undo() " + times + " times", x -> {
          change(x, 0, to);
          back(x, undone);
          change(x, to - undone, to);
        }, x -> change(x, 0, to), made > 4 ? 0 : Look.UNDO);
      }
    }
    Played x = new Played();
    x.archers(0, 1, 2, 3, 4, 5);
    due("undo", x.undo(), 3);
    due("undo", x.undo(), 2);
    due("one change", x.archer(7), 4);
    due("three can be undone, not four", x.undo(), 2);
    due("the one of before", x.undo(), 1);
    due("number 3 is free", x.archer(7), 3);
    due("two again", x.undo(), 1);
    due("one", x.undo(), 0);
    due("none", x.undo(), NONE);
    due("two are left", x.archer(7), 2);
  }

  private static void manyChanges() {
    Played x = new Played();
    x.archers(0, 1);
    for (int day = 1; day <= 400; day++) {
      x.today(day);
    }
    for (int more = 3; more >= 0; more--) {
      due("undo", x.undo(), more);
    }
    due("a fifth", x.undo(), NONE);
    due("TODAY is 396", x.today(395), 0);
    due("and not more", x.today(396), 1);
    Played y = new Played();
    y.bay(1);
    for (int i = 0; i < 100; i++) {
      due("to 1", y.lane(0, 1), 0);
      due("undo", y.undo(), i == 0 ? 1 : 3);
      due("to 2", y.lane(0, 2), 0);
      due("back", y.lane(0, 0), 2);
    }
    due("undo", y.undo(), 3);
    due("FORWARD", y.state(0), 2);
  }

  /** Calls that undo() does not take back, and that do not count for it. */
  private static final Bound.Calls[] OTHERS = {
      x -> x.fault(0), x -> x.of(0), x -> x.told(0, 2), x -> x.value(0, 0), x -> x.ahead(0, 1),
      x -> x.rank(0), x -> x.kind(0, 10, 50), x -> x.on(0), x -> x.state(0), x -> x.end(20)};

  private static void onlyThese() {
    for (int i = 0; i < OTHERS.length; i++) {
      Bound.Calls other = OTHERS[i];
      Bound.same("call " + i + " is no change", x -> {
        Bound.rich(x);
        other.on(x);
      }, Bound::rich, 0);
    }
    Bound.Calls feed = x -> x.feed("last;shaft 7;       ", 0);
    Bound.same("feed() stays behind undo()", x -> {
      Bound.rich(x);
      feed.on(x);
      x.undo();
    }, x -> {
      Bound.rich(x);
      x.undo();
      feed.on(x);
    }, 0);
    Bound.same("end() stays behind undo()", x -> {
      Bound.rich(x);
      x.end(9);
      x.undo();
    }, x -> {
      Bound.rich(x);
      x.undo();
      x.end(9);
    }, 0);
  }

  // "(ARROWS told for an END to come stay as they are.)"
  private static void arrowsStay() {
    for (int made = 1; made <= CHANGES.length; made++) {
      int to = made;
      Bound.same("arrows told behind change " + made, x -> {
        change(x, 0, to);
        x.arrow(0, 49, 0);
        x.arrow(4, 0, 0);
        x.undo();
      }, x -> {
        change(x, 0, to);
        x.undo();
        x.arrow(0, 49, 0);
        x.arrow(4, 0, 0);
      }, 0);
    }
    for (int told = 0; told <= 6; told++) {
      Played x = new Played();
      x.archer(0);
      for (int k = 1; k <= told; k++) {
        due("arrow", x.arrow(1, 0, 0), k);
      }
      due("undo", x.undo(), 0);
      due("one arrow more", x.arrow(1, 0, 0), told == 6 ? NONE : told + 1);
    }
  }

  private static void arrowsOfTheEndDoNotComeBack() {
    Played x = new Played();
    x.round("face 100:5;leg 2 3 0;");
    x.archer(0);
    due("an END", x.shootAt(0, 0, 0, 0), 15);
    due("undo", x.undo(), 2);
    due("no ENDS", x.told(0, 1), 0);
    due("its arrows are gone", x.shoot(0), -2);
    due("the first", x.arrow(0, 0, 0), 1);
    due("a refused END takes them, too", x.shoot(0), -2);
    due("undo() is of the ARCHER", x.undo(), 1);
    due("nobody", x.told(0, 0), NONE);
    due("no arrow came back", x.arrow(0, 0, 0), 1);
  }

  private static void tapeAndFaultStay() {
    Played x = new Played();
    due("a round", x.round(NEAREST), 2);
    due("undo", x.undo(), 0);
    due("no ROUND", x.of(0), NONE);
    due("the tape of its text is gone", x.end(1), 0);
    due("a FAULT", x.round("face 0:1;"), NONE);
    due("which is no change", x.undo(), NONE);
    due("the FAULT is of the latest round()", x.fault(0), 2);
    due("its place", x.fault(1), 5);
    due("a round", x.round(NEAREST), 2);
    due("undo", x.undo(), 0);
    due("the latest round() had none", x.fault(0), 0);
    due("nor a place", x.fault(1), NONE);
    due("an ARCHER", x.archer(0), 0);
    due("a FAULT", x.round("face 0:1;"), NONE);
    due("undo() of the ARCHER", x.undo(), 0);
    due("the FAULT stays", x.fault(0), 2);
    due("its place, too", x.fault(1), 5);
  }

  private static void refusedCallsAreNoChanges() {
    Bound.Call[] calls = {x -> x.archer(8), x -> x.leave(9), x -> x.take(3), x -> x.off(3, 0, 0, 0),
        x -> x.today(59), x -> x.score(0, 0, 2001), x -> x.strike(0, 0), x -> x.law(0, 1, 1),
        x -> x.bay(5), x -> x.lane(0, 2), x -> x.feed(0, 0, 0, 0, 0) > 0 ? x.undo() : 0};
    int[] want = {NONE, 0, NONE, NONE, 0, NONE, 0, NONE, NONE, NONE, 3};
    for (int i = 0; i < calls.length; i++) {
      Played x = new Played();
      Bound.rich(x);
      due("call " + i, calls[i].on(x), want[i]);
      due("undo() of the change before", x.undo(), i == calls.length - 1 ? 2 : 3);
    }
    Played y = new Played();
    Bound.rich(y);
    due("a FAULT", y.round("leg 1 1 0;"), NONE);
    due("too few", y.shoot(2), -2);
    due("no such ARCHER", y.shoot(9), -1);
    due("undo() of the LANE", y.undo(), 3);
    due("its state", y.state(3), 0);
    due("undo() of the strike", y.undo(), 2);
    due("not STRUCK", y.kind(0, 10, 60), 5);
    due("undo() of the other LANE", y.undo(), 1);
    due("its state", y.state(0), 0);
    due("undo() of today()", y.undo(), 0);
    due("TODAY is 50", y.today(49), 0);
    due("no more", y.undo(), NONE);
    due("TODAY is 50 still", y.today(50), 1);
  }
}
