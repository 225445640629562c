/** The boundary cases of bays, layouts and the line: Terms IV, and promises 22 to 26. */
public final class BoundsOfLineTest {
  private static final int NONE = ArcheryField.NONE;
  private static final int SPENT = -2;
  private static final int BIG = Bound.BIG;
  private static final int SMALL = Bound.SMALL;

  private BoundsOfLineTest() {
  }

  public static void main(String[] args) {
    bayOneToFour();
    bayEightLanes();
    bayLayoutGoes();
    layoutNoLanes();
    layoutNobody();
    layoutFull();
    layoutOneLane();
    layoutSideBySide();
    layoutTwoLanesApart();
    layoutFirstOne();
    layoutTooManyOfAClub();
    layoutMoreThanPlaces();
    layoutTries();
    layoutTriesWithoutOne();
    layoutAgain();
    on();
    laneBounds();
    laneStates();
    laneOfItsBay();
    state();
    Check.close("BoundsOfLineTest");
  }

  private static void due(String why, int got, int want) {
    Check.due(why, got, want);
  }

  private static void refused(String why, Bound.Call call, int want) {
    Bound.refused(why, Bound::rich, call, want);
  }

  /** So many LANES, in BAYS of one to four of them. */
  private static void lanes(Played x, int lanes, int ofBay) {
    for (int left = lanes; left > 0; left -= ofBay) {
      x.bay(Math.min(ofBay, left));
    }
  }

  // "n 1 .. 8", "each BAY has 1 to 4 LANES", "NONE when that can't be."
  private static void bayOneToFour() {
    for (int lanes : new int[] {0, -1, 5, 6, 8, 9, BIG, SMALL, BIG - 3}) {
      refused("bay(" + lanes + ")", x -> x.bay(lanes), NONE);
      Bound.refused("the first bay(" + lanes + ")", Bound::nothing, x -> x.bay(lanes), NONE);
    }
    for (int lanes = 1; lanes <= 4; lanes++) {
      int more = lanes;
      Played x = Bound.taken("the first bay", Bound::nothing, y -> y.bay(more), lanes);
      for (int lane = 0; lane < lanes; lane++) {
        due("these are WAITING", x.state(lane), 0);
      }
      due("no LANE more", x.state(lanes), NONE);
      Played z = Bound.taken("a third bay", Bound::rich, y -> y.bay(more), 4 + lanes);
      for (int lane = 0; lane < 4 + lanes; lane++) {
        due("the others stay, these are WAITING", z.state(lane), lane == 0 ? 1 : lane == 3 ? 2 : 0);
      }
      due("no LANE more of them", z.state(4 + lanes), NONE);
    }
  }

  private static void bayEightLanes() {
    for (int there = 0; there <= 8; there++) {
      for (int lanes = 1; lanes <= 4; lanes++) {
        int before = there;
        int more = lanes;
        if (there + lanes <= 8) {
          Bound.taken(there + " and " + lanes, x -> lanes(x, before, 3), x -> x.bay(more),
              there + lanes);
        } else {
          Bound.refused(there + " and " + lanes, x -> {
            lanes(x, before, 3);
            x.archers(0, 1, 0, 1);
            x.layout();
            x.lane(before - 1, 2);
          }, x -> x.bay(more), NONE);
        }
      }
    }
    Played x = new Played();
    for (int lane = 1; lane <= 8; lane++) {
      due("a BAY of one", x.bay(1), lane);
    }
    due("a ninth", x.bay(1), NONE);
  }

  // "the LAYOUT goes"
  private static void bayLayoutGoes() {
    Played x = new Played();
    Bound.rich(x);
    due("somebody is on", x.on(0), 0);
    due("a BAY more", x.bay(1), 5);
    for (int place = 0; place < 10; place++) {
      due("on " + place, x.on(place), NONE);
    }
    for (int a = 0; a < 4; a++) {
      due("place of " + a, x.told(a, 6), NONE);
    }
    due("they are there still", x.layout(), 4);
  }

  // "NONE: .. or no LANES"
  private static void layoutNoLanes() {
    Bound.refused("no LANES, nobody", Bound::nothing, Played::layout, NONE);
    Bound.refused("no LANES", x -> x.archers(0, 1), Played::layout, NONE);
    Bound.refused("no LANES, sixteen", x -> {
      for (int a = 0; a < 16; a++) {
        x.archer(a % 8);
      }
    }, Played::layout, NONE);
    Bound.taken("one LANE", x -> {
      x.archers(0, 1);
      x.bay(1);
    }, Played::layout, 2);
    Bound.refused("no LANES again, by undo()", x -> {
      x.archer(0);
      x.bay(1);
      x.undo();
    }, Played::layout, NONE);
  }

  private static void layoutNobody() {
    for (int lanes = 1; lanes <= 4; lanes++) {
      int there = lanes;
      Bound.taken("nobody", x -> x.bay(there), Played::layout, 0);
    }
    Played x = new Played();
    Bound.rich(x);
    for (int a = 0; a < 4; a++) {
      x.leave(a);
    }
    due("all have left", x.layout(), 0);
    for (int place = 0; place < 8; place++) {
      due("on " + place, x.on(place), NONE);
    }
    due("a LAYOUT of nobody is one that undo() takes back", x.undo(), 3);
    due("nobody is back", x.told(3, 0), NONE);
    due("behind it is the last who left", x.undo(), 2);
    due("who is back", x.told(3, 0), 7);
  }

  /** The first LAYOUT puts the ARCHERS, by number, on these places. */
  private static void places(String why, int lanes, int[] clubs, int... want) {
    for (int ofBay = 1; ofBay <= 4; ofBay++) {
      Played x = new Played();
      lanes(x, lanes, ofBay);
      x.archers(clubs);
      due(why, x.layout(), clubs.length);
      for (int place = 0; place < 2 * lanes; place++) {
        int there = NONE;
        for (int a = 0; a < want.length; a++) {
          there = want[a] == place ? a : there;
        }
        due(why + ": on " + place, x.on(place), there);
      }
      for (int a = 0; a < want.length; a++) {
        due(why + ": place of " + a, x.told(a, 6), want[a]);
      }
    }
  }

  private static int[] of(int... numbers) {
    return numbers;
  }

  private static int layout(int lanes, int... clubs) {
    Played x = new Played();
    lanes(x, lanes, 4);
    x.archers(clubs);
    return x.layout();
  }

  private static void layoutFull() {
    places("one on one LANE", 1, of(3), 0);
    places("two on one LANE", 1, of(3, 4), 0, 1);
    due("three on one LANE", layout(1, 3, 4, 5), NONE);
    places("eight on four", 4, of(0, 1, 2, 3, 4, 5, 6, 7), 0, 1, 2, 3, 4, 5, 6, 7);
    places("sixteen on eight", 8, of(0, 1, 2, 3, 0, 1, 2, 3, 0, 1, 2, 3, 0, 1, 2, 3),
        0, 1, 2, 3, 4, 5, 6, 7, 8, 9, 10, 11, 12, 13, 14, 15);
  }

  // "no two of a CLUB on one LANE"
  private static void layoutOneLane() {
    for (int club = 0; club <= 7; club++) {
      due("two of CLUB " + club + " on one LANE", layout(1, club, club), NONE);
      due("one of another", layout(1, club, (club + 1) % 8), 2);
    }
    places("the second goes on", 2, of(0, 0), 0, 3);
  }

  // "nor on the same place of two LANES side by side (also of two BAYS)"
  private static void layoutSideBySide() {
    due("one A and one B", layout(2, 0, 0), 2);
    due("a third would be beside one", layout(2, 0, 0, 0), NONE);
    places("crosswise", 3, of(0, 0, 0), 0, 3, 4);
    places("crosswise over all LANES", 8, of(5, 5, 5, 5, 5, 5, 5, 5), 0, 3, 4, 7, 8, 11, 12, 15);
    places("two CLUBS crosswise", 2, of(0, 0, 1, 1), 0, 3, 1, 2);
    places("A beside A", 2, of(0, 1, 0), 0, 1, 3);
    // The one behind may be there first: the LANE before and the LANE behind are both looked at.
    places("the LANE behind", 3, of(0, 1, 2, 1, 1), 0, 1, 3, 2, 5);
  }

  private static void layoutTwoLanesApart() {
    places("the same place two LANES on", 3, of(0, 1, 2, 3, 0, 1), 0, 1, 2, 3, 4, 5);
    places("side by side, other places", 2, of(0, 1, 1, 0), 0, 1, 2, 3);
  }

  // "The first one: the one that has the least place for the first ARCHER in whose place two of
  // them differ."
  private static void layoutFirstOne() {
    places("the third gives way to the fourth", 2, of(0, 1, 2, 1), 0, 1, 3, 2);
    places("numbers, not CLUBS, are in order", 2, of(7, 0, 6, 1), 0, 1, 2, 3);
    Played x = new Played();
    x.bay(2);
    x.archers(0, 5, 1, 1, 0);
    x.leave(1);
    due("those that are there", x.layout(), 4);
    due("0 is first", x.on(0), 0);
    due("then 2", x.on(1), 2);
    due("then 3", x.on(2), 3);
    due("then 4", x.on(3), 4);
  }

  private static Bound.Calls laid(int lanes, int... clubs) {
    return x -> {
      lanes(x, lanes, 4);
      x.archers(clubs);
      x.layout();
    };
  }

  // "NONE: there is none"
  private static void layoutTooManyOfAClub() {
    for (int lanes = 1; lanes <= 4; lanes++) {
      int[] most = new int[lanes];
      int[] beyond = new int[lanes + 1];
      due("one of a CLUB each LANE", layout(lanes, most), lanes);
      due("one of them more", layout(lanes, beyond), NONE);
      Bound.Calls before = laid(lanes, most);
      Bound.refused("one of them more", x -> {
        before.on(x);
        x.archer(0);
      }, Played::layout, NONE);
    }
    Bound.refused("the one before stays", x -> {
      laid(2, 0, 1, 1).on(x);
      x.archers(0, 2);
    }, Played::layout, NONE);
  }

  private static void layoutMoreThanPlaces() {
    Bound.refused("three on one LANE", x -> {
      laid(1, 0, 1).on(x);
      x.archer(2);
    }, Played::layout, NONE);
    Bound.refused("seven on three LANES", x -> {
      laid(3, 0, 1, 2, 3, 4, 5).on(x);
      x.archer(6);
    }, Played::layout, NONE);
    Bound.refused("nine on four LANES: more TRIES than there may be", x -> {
      laid(4, 0, 1, 2, 3, 4, 5, 6, 7).on(x);
      x.archer(0);
    }, Played::layout, SPENT);
  }

  // "With the 20001st TRY it is SPENT.", "-2 SPENT (then the one before stays)": the numbers of
  // TRIES were counted by a search of its own
  private static void layoutTries() {
    due("19998 TRIES", layout(6, 2, 3, 0, 5, 5, 1, 1, 4, 1, 1, 1, 2), 12);
    due("20000 TRIES", layout(7, 3, 1, 0, 4, 4, 2, 2, 0, 0, 1, 0, 0, 0, 1), 14);
    due("20000 TRIES, others", layout(7, 3, 2, 4, 5, 2, 0, 0, 3, 3, 1, 3, 3, 3, 5), 14);
    due("20001 TRIES", layout(7, 5, 1, 5, 2, 1, 0, 0, 4, 4, 3, 4, 4, 4, 2), SPENT);
    due("20002 TRIES", layout(7, 2, 2, 0, 6, 5, 1, 1, 3, 3, 0, 3, 3, 3, 0), SPENT);
    due("20002 TRIES on eight", layout(8, 4, 1, 5, 2, 2, 4, 1, 0, 0, 6, 6, 5, 6, 6, 6, 1), SPENT);
    due("20004 TRIES", layout(7, 3, 3, 3, 4, 1, 1, 1, 0, 0, 4, 0, 0, 0, 4), SPENT);
    Bound.refused("the one before stays with 20001", x -> {
      laid(7, 5, 1, 5, 2, 1).on(x);
      x.archers(0, 0, 4, 4, 3, 4, 4, 4, 2);
      x.lane(6, 1);
    }, Played::layout, SPENT);
    Played y = new Played();
    laid(7, 3, 1, 0, 4, 4).on(y);
    y.archers(2, 2, 0, 0, 1, 0, 0, 0, 1);
    due("the TRIES of a layout() before do not count", y.layout(), 14);
    due("nor these", y.layout(), 14);
    // The 20000th TRY is one of the last ARCHER's and parts them not: it is not taken for the last.
    due("one TRY short, on five", layout(5, 0, 0, 0, 4, 0, 1, 0, 2, 4, 0), SPENT);
    due("one TRY short, on six", layout(6, 2, 1, 3, 0, 0, 0, 0, 4, 0, 2, 0), SPENT);
    due("one TRY short, on eight", layout(8, 0, 3, 0, 0, 3, 0, 0, 3, 3, 0, 0, 0, 1, 3, 0), SPENT);
  }

  private static void layoutTriesWithoutOne() {
    due("19792 TRIES", layout(4, 0, 0, 1, 2, 0, 1, 1, 0, 0), NONE);
    due("19912 TRIES", layout(4, 0, 1, 0, 2, 0, 1, 1, 0, 0), NONE);
    due("20048 TRIES", layout(4, 0, 0, 1, 1, 0, 2, 3, 0, 0), SPENT);
    due("20168 TRIES", layout(4, 0, 1, 0, 1, 0, 2, 3, 0, 0), SPENT);
    Played x = new Played();
    lanes(x, 4, 2);
    x.archers(0, 1, 0, 2, 0, 1, 1, 0, 0);
    for (int again = 0; again < 100; again++) {
      due("19912 TRIES, again", x.layout(), NONE);
    }
    Played y = new Played();
    lanes(y, 4, 1);
    y.archers(0, 0, 1, 1, 0, 2, 3, 0, 0);
    for (int again = 0; again < 100; again++) {
      due("20048 TRIES, again", y.layout(), SPENT);
    }
  }

  private static void layoutAgain() {
    Bound.same("the same LAYOUT again", Bound::rich, x -> {
      Bound.rich(x);
      x.layout();
    }, Look.UNDO);
    Played x = new Played();
    laid(2, 0, 1, 2, 3).on(x);
    x.leave(0);
    due("0 has left their place", x.on(0), NONE);
    due("the others stay on theirs", x.on(1), 1);
    x.archer(3);
    due("who comes has no place", x.told(0, 6), NONE);
    due("laid anew", x.layout(), 4);
    due("0 is on", x.on(0), 0);
  }

  // "NONE without, or no such place."
  private static void on() {
    for (int place : new int[] {-1, 8, 9, 15, 16, BIG, SMALL}) {
      refused("on(" + place + ")", x -> x.on(place), NONE);
    }
    Bound.refused("no LANES", x -> x.archer(0), x -> x.on(0), NONE);
    Bound.refused("no LAYOUT", x -> {
      x.archer(0);
      x.bay(1);
    }, x -> x.on(0), NONE);
    refused("nobody there", x -> x.on(4), NONE);
    Bound.taken("the first place", Bound::rich, x -> x.on(0), 0);
    Bound.Calls full = laid(8, 0, 1, 2, 3, 0, 1, 2, 3, 0, 1, 2, 3, 0, 1, 2, 3);
    Bound.taken("the last of sixteen places", full, x -> x.on(15), 15);
    Bound.refused("one more", full, x -> x.on(16), NONE);
    Bound.refused("one less than the first", full, x -> x.on(-1), NONE);
  }

  // "NONE: no such LANE, state"
  private static void laneBounds() {
    for (int lane : new int[] {-1, 4, 5, 7, 8, BIG, SMALL}) {
      for (int state = 0; state <= 2; state++) {
        int to = state;
        refused("lane(" + lane + ", " + state + ")", x -> x.lane(lane, to), NONE);
      }
    }
    for (int state : new int[] {-1, 3, 4, BIG, SMALL}) {
      for (int lane = 0; lane < 4; lane++) {
        int which = lane;
        refused("lane(" + lane + ", " + state + ")", x -> x.lane(which, state), NONE);
      }
    }
    Bound.refused("no LANES", Bound::nothing, x -> x.lane(0, 1), NONE);
    for (int lanes = 1; lanes <= 8; lanes++) {
      int there = lanes;
      Bound.taken("the last LANE", x -> lanes(x, there, 3), x -> x.lane(there - 1, 1), 0);
      Bound.taken("the first LANE", x -> lanes(x, there, 3), x -> x.lane(0, 2), 0);
      Bound.refused("one LANE more", x -> lanes(x, there, 3), x -> x.lane(there, 1), NONE);
    }
  }

  // "From 0 to 1 and from 0 to 2 and back", "or it may not (also to what it is)"
  private static void laneStates() {
    boolean[][] may = {{false, true, true}, {true, false, false}, {true, false, false}};
    for (int from = 0; from <= 2; from++) {
      for (int to = 0; to <= 2; to++) {
        int was = from;
        int becomes = to;
        Bound.Calls before = x -> {
          x.bay(3);
          x.lane(1, was);
        };
        String why = "from " + from + " to " + to;
        if (may[from][to]) {
          Played x = Bound.taken(why, before, y -> y.lane(1, becomes), from);
          due(why + ": its state", x.state(1), to);
          due(why + ": the LANE before", x.state(0), 0);
          due(why + ": the LANE behind", x.state(2), 0);
        } else {
          Bound.refused(why, before, y -> y.lane(1, becomes), NONE);
        }
      }
    }
  }

  // "to 1 alone if no LANE of its BAY is 2, to 2 alone if none is 1"
  private static void laneOfItsBay() {
    // Every two LANES of eight, in BAYS of four, one, two and one.
    int[] bays = {0, 0, 0, 0, 1, 2, 2, 3};
    for (int one = 0; one < 8; one++) {
      for (int other = 0; other < 8; other++) {
        for (int state = 1; state <= 2 && one != other; state++) {
          int first = one;
          int second = other;
          int is = state;
          Bound.Calls before = x -> {
            x.bay(4);
            x.bay(1);
            x.bay(2);
            x.bay(1);
            x.lane(first, is);
          };
          String why = "LANE " + other + " while " + one + " is " + state;
          Bound.taken(why + ", likewise", before, x -> x.lane(second, is), 0);
          if (bays[one] == bays[other]) {
            Bound.refused(why, before, x -> x.lane(second, 3 - is), NONE);
          } else {
            Bound.taken(why, before, x -> x.lane(second, 3 - is), 0);
          }
        }
      }
    }
    Played x = new Played();
    x.bay(4);
    for (int lane = 0; lane < 4; lane++) {
      due("all SHOOTING", x.lane(lane, 1), 0);
    }
    for (int lane = 0; lane < 4; lane++) {
      due("none goes FORWARD", x.lane(0, 2), NONE);
      due("one less SHOOTING", x.lane(lane, 0), 1);
    }
    due("none is SHOOTING", x.lane(0, 2), 0);
    due("none shoots now", x.lane(3, 1), NONE);
    due("back", x.lane(0, 0), 2);
    due("they may again", x.lane(3, 1), 0);
  }

  // "NONE when there is none such."
  private static void state() {
    for (int lane : new int[] {-1, 4, 5, 7, 8, BIG, SMALL}) {
      refused("state(" + lane + ")", x -> x.state(lane), NONE);
    }
    Bound.refused("no LANES", Bound::nothing, x -> x.state(0), NONE);
    int[] want = {1, 0, 0, 2};
    for (int lane = 0; lane < 4; lane++) {
      int which = lane;
      Bound.taken("state(" + lane + ")", Bound::rich, x -> x.state(which), want[lane]);
    }
    for (int lanes = 1; lanes <= 8; lanes++) {
      int there = lanes;
      Bound.taken("the last LANE", x -> lanes(x, there, 4), x -> x.state(there - 1), 0);
      Bound.refused("one LANE more", x -> lanes(x, there, 4), x -> x.state(there), NONE);
    }
  }
}
