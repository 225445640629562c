/** The boundary cases of archers and what they shoot: Terms II, and promises 7 to 16. */
public final class BoundsOfShootingTest {
  private static final int NONE = ArcheryField.NONE;
  private static final int BIG = Bound.BIG;
  private static final int SMALL = Bound.SMALL;
  private static final int[] NO_ARCHERS = {-1, 4, 15, 16, BIG, SMALL};
  private static final String ONE = "face 100:5;leg 1 1 0;";

  private BoundsOfShootingTest() {
  }

  public static void main(String[] args) {
    archerClubs();
    archerSixteen();
    archerLeastFree();
    leave();
    leaveTakesAll();
    told();
    toldLeastAndMost();
    arrowKinds();
    arrowPlaces();
    arrowIn();
    arrowSixAtMost();
    hitUpToTheSquare();
    hitTheLastLine();
    hitFarthest();
    whatTheTextSays();
    shootNoSuch();
    shootAllEnds();
    shootNotSoMany();
    shootInNotAhead();
    shootInMissed();
    shootInCountsAsMuch();
    shootOrderOfRefusals();
    shootLegs();
    value();
    valueOf288();
    take();
    offAllEnds();
    offEightAtMost();
    offKindsAndPlaces();
    offStays();
    aheadRefuses();
    aheadByTotal();
    aheadByMost();
    aheadByLast();
    aheadByNearest();
    aheadByTheEighth();
    aheadByTheSixthTie();
    rankRefuses();
    rankOneToSixteen();
    Check.close("BoundsOfShootingTest");
  }

  private static void due(String why, int got, int want) {
    Check.due(why, got, want);
  }

  private static void refused(String why, Bound.Call call, int want) {
    Bound.refused(why, Bound::rich, call, want);
  }

  /** A ROUND, and as many ARCHERS of CLUB 0. */
  private static Played with(String text, int archers) {
    Played x = new Played();
    Check.due("round of " + text, x.round(text) > 0, true);
    for (int a = 0; a < archers; a++) {
      x.archer(0);
    }
    return x;
  }

  // "have a CLUB (0 .. 7)", "NONE: no such CLUB"
  private static void archerClubs() {
    for (int club = 0; club <= 7; club++) {
      int comes = club;
      Played x = Bound.taken("archer(" + club + ")", Bound::rich, y -> y.archer(comes), 4);
      due("the CLUB", x.told(4, 0), club);
    }
    for (int club : new int[] {-1, 8, BIG, SMALL}) {
      refused("archer(" + club + ")", x -> x.archer(club), NONE);
      Bound.refused("the first archer(" + club + ")", Bound::nothing, x -> x.archer(club), NONE);
    }
  }

  private static void sixteen(Played x) {
    Bound.rich(x);
    for (int a = 4; a < 16; a++) {
      x.archer(a % 8);
    }
  }

  // "ARCHERS 0 .. 15", "or there are 16"
  private static void archerSixteen() {
    Played x = new Played();
    for (int a = 0; a < 16; a++) {
      due("archer number", x.archer(a % 8), a);
    }
    due("a 17th", x.archer(0), NONE);
    for (int a = 0; a < 16; a++) {
      due("CLUB of " + a, x.told(a, 0), a % 8);
    }
    for (int club = -1; club <= 8; club++) {
      int comes = club;
      Bound.refused("a 17th of CLUB " + club, BoundsOfShootingTest::sixteen, y -> y.archer(comes),
          NONE);
    }
  }

  // "their number (the least that is free)"
  private static void archerLeastFree() {
    for (int goes = 0; goes < 16; goes++) {
      int a = goes;
      Bound.taken("the one that is free", y -> {
        sixteen(y);
        y.leave(a);
      }, y -> y.archer(7), a);
    }
    Played x = new Played();
    sixteen(x);
    for (int a : new int[] {15, 0, 8, 7}) {
      due("leave", x.leave(a), 1);
    }
    for (int a : new int[] {0, 7, 8, 15, NONE}) {
      due("the least free", x.archer(6), a);
    }
  }

  // "false when there is none such"
  private static void leave() {
    for (int a : NO_ARCHERS) {
      refused("leave(" + a + ")", x -> x.leave(a), 0);
    }
    Bound.refused("leave again", x -> {
      Bound.rich(x);
      x.leave(3);
    }, x -> x.leave(3), 0);
    Bound.refused("leave of none", Bound::nothing, x -> x.leave(0), 0);
    Bound.taken("the last of sixteen", BoundsOfShootingTest::sixteen, x -> x.leave(15), 1);
    Bound.taken("the first of sixteen", BoundsOfShootingTest::sixteen, x -> x.leave(0), 1);
  }

  // "An ARCHER goes, with what they shot, their SCORES, their place on the line"
  private static void leaveTakesAll() {
    Played x = new Played();
    Bound.rich(x);
    due("place of 1", x.told(1, 6), 1);
    due("leave(1)", x.leave(1), 1);
    due("on their place", x.on(1), NONE);
    due("on the others'", x.on(0), 0);
    due("no rank", x.rank(1), NONE);
    due("nobody to compare", x.ahead(0, 1), -2);
    due("no class", x.kind(1, 36500, 60), NONE);
    due("another comes", x.archer(5), 1);
    for (int what = 1; what <= 5; what++) {
      due("told " + what, x.told(1, what), 0);
    }
    due("no place", x.told(1, 6), NONE);
    due("no value", x.value(1, 0), NONE);
    due("no SCORE to strike", x.strike(1, 0), 0);
    due("nothing to take", x.take(1), NONE);
    due("the first SCORE", x.score(1, 0, 0), 0);
  }

  // "NONE when there is none such, or for others."
  private static void told() {
    for (int what : new int[] {-1, 7, 8, BIG, SMALL}) {
      refused("told(0, " + what + ")", x -> x.told(0, what), NONE);
    }
    for (int a : NO_ARCHERS) {
      for (int what = 0; what < 7; what++) {
        int asked = what;
        refused("told(" + a + ", " + what + ")", x -> x.told(a, asked), NONE);
      }
    }
    Played x = new Played();
    sixteen(x);
    due("of the last", x.told(15, 0), 7);
    due("of one more", x.told(16, 0), NONE);
  }

  // "(0 without)", "NONE"
  private static void toldLeastAndMost() {
    Played x = new Played();
    x.archer(0);
    for (int what = 0; what <= 5; what++) {
      due("of a new one: told " + what, x.told(0, what), 0);
    }
    due("no place", x.told(0, 6), NONE);
    x.round("face 1:20;leg 12 6 0;leg 12 6 0;leg 12 6 0;leg 12 6 0;");
    for (int end = 0; end < 48; end++) {
      due("an END of six 20", x.shootAt(0, 0, 0, 0, 0, 0, 0), 120);
    }
    due("ENDS", x.told(0, 1), 48);
    due("TOTAL", x.told(0, 2), 5760);
    due("the last END", x.told(0, 3), 120);
    for (int k = 1; k <= 8; k++) {
      x.off(0, 1, 0, 0);
    }
    due("SHOOT-OFFS", x.told(0, 4), 8);
    for (int k = 0; k < 30; k++) {
      x.score(0, 0, 0);
    }
    due("SCORES", x.told(0, 5), 30);
    Played y = new Played();
    y.bay(4);
    y.bay(4);
    for (int a = 0; a < 16; a++) {
      y.archer(a % 4);
    }
    due("all of them", y.layout(), 16);
    due("the last place", y.told(y.on(15), 6), 15);
    due("the first place", y.told(y.on(0), 6), 0);
  }

  // "0 HIT", "1 MISSED", "2 BOUNCED, 3 PASSED", "4 IN another one", "(x, y of 1 to 3, y of 4, are
  // not looked at.)"
  private static void arrowKinds() {
    for (int kind : new int[] {-1, 5, 6, BIG, SMALL}) {
      refused("arrow of kind " + kind, x -> x.arrow(kind, 0, 0), NONE);
      Bound.refused("first arrow of kind " + kind, Bound::nothing, x -> x.arrow(kind, 0, 0), NONE);
    }
    for (int kind = 0; kind <= 4; kind++) {
      int told = kind;
      Bound.taken("arrow of kind " + kind, Bound::rich, x -> x.arrow(told, 0, 0), 3);
    }
    int[] any = {SMALL, -20001, -1, 6, 20001, BIG};
    for (int x : any) {
      for (int y : any) {
        for (int kind = 1; kind <= 3; kind++) {
          int told = kind;
          Bound.taken("not looked at", Bound::rich, z -> z.arrow(told, x, y), 3);
        }
      }
      Bound.taken("y of 4 is not looked at", Bound::rich, z -> z.arrow(4, 0, x), 3);
    }
  }

  // "HIT at a whole place x, y (.. -20000 .. 20000)"
  private static void arrowPlaces() {
    int[] good = {-20000, -19999, 0, 19999, 20000};
    for (int x : good) {
      for (int y : good) {
        Bound.taken("HIT at " + x + ", " + y, Bound::rich, z -> z.arrow(0, x, y), 3);
      }
      for (int y : new int[] {-20001, 20001, BIG, SMALL, 65536, -65536}) {
        refused("HIT at " + x + ", " + y, z -> z.arrow(0, x, y), NONE);
        refused("HIT at " + y + ", " + x, z -> z.arrow(0, y, x), NONE);
      }
    }
    refused("HIT beyond both", z -> z.arrow(0, 20001, -20001), NONE);
  }

  // "x is the number (from 0 on) of an ARROW of the END": an END has 6 at most
  private static void arrowIn() {
    for (int x = 0; x <= 5; x++) {
      int told = x;
      Bound.taken("IN " + x, Bound::rich, y -> y.arrow(4, told, 0), 3);
      Bound.taken("the first IN " + x, Bound::nothing, y -> y.arrow(4, told, 0), 1);
    }
    for (int x : new int[] {-1, 6, 7, BIG, SMALL}) {
      refused("IN " + x, y -> y.arrow(4, x, 0), NONE);
      Bound.refused("the first IN " + x, Bound::nothing, y -> y.arrow(4, x, 0), NONE);
    }
  }

  // "One ARROW more of the END to come (6 at most)"
  private static void arrowSixAtMost() {
    for (int kind = 0; kind <= 4; kind++) {
      int told = kind;
      Bound.taken("a 6th", x -> {
        for (int k = 0; k < 5; k++) {
          x.arrow(0, k, 0);
        }
      }, x -> x.arrow(told, 0, 0), 6);
      Bound.refused("a 7th", x -> {
        x.round("face 9:1;leg 1 6 0;");
        x.archers(0, 0, 0);
        for (int k = 0; k < 6; k++) {
          x.arrow(0, k < 4 ? 0 : 10, 0);
        }
      }, x -> x.arrow(told, 0, 0), NONE);
    }
    Played x = with("face 9:1;leg 1 6 0;", 1);
    for (int k = 1; k <= 6; k++) {
      due("arrow", x.arrow(0, 0, 0), k);
    }
    due("a 7th", x.arrow(1, 0, 0), NONE);
    due("the six are shot", x.shoot(0), 6);
    due("then the first again", x.arrow(1, 0, 0), 1);
  }

  /** What an arrow at x, y counts on a FACE of one LINE that counts 5. */
  private static void hit(int radius, int shaft, int x, int y, int want) {
    Played z = with("face " + radius + ":5;leg 1 1 0;shaft " + shaft + ";", 1);
    z.arrow(0, x, y);
    due("radius " + radius + ", shaft " + shaft + " at " + x + ", " + y, z.shoot(0), want);
    due("its value", z.value(0, 0), want);
  }

  // "x x + y y up to the square of (radius and shaft)"
  private static void hitUpToTheSquare() {
    int[][] reaches = {{1, 0}, {1, 1}, {1, 100}, {97, 3}, {9999, 1}, {10000, 0}, {10000, 100}};
    for (int[] reach : reaches) {
      int far = reach[0] + reach[1];
      int[] signs = {1, -1};
      for (int sign : signs) {
        hit(reach[0], reach[1], sign * far, 0, 5);
        hit(reach[0], reach[1], 0, sign * far, 5);
        hit(reach[0], reach[1], sign * (far + 1), 0, 0);
        hit(reach[0], reach[1], 0, sign * (far + 1), 0);
        hit(reach[0], reach[1], sign * far, 1, 0);
        hit(reach[0], reach[1], 1, sign * far, 0);
      }
      hit(reach[0], reach[1], 0, 0, 5);
    }
    // 60 60 + 80 80 is 100 100; the squares on both sides are 9999 and 10001 or more.
    hit(100, 0, 60, 80, 5);
    hit(97, 3, -60, 80, 5);
    hit(100, 0, 60, -80, 5);
    hit(100, 0, 61, 80, 0);
    hit(100, 0, 60, 81, 0);
    hit(96, 3, 60, 80, 0);
    // 7141 7141 + 7142 7142 is 102002045, 10100 10100 is 102010000, 7142 7142 twice 102016328.
    hit(10000, 100, 7141, 7142, 5);
    hit(10000, 100, 7142, 7142, 0);
    hit(10000, 100, -7142, -7141, 5);
    hit(10000, 100, -7142, -7142, 0);
  }

  // "the value of the last LINE with ..", "0 without one"
  private static void hitTheLastLine() {
    Played x = with("face 100:1 50:2 49:3 2:19 1:20;leg 12 1 0;", 1);
    int[][] hits = {{0, 20}, {1, 20}, {2, 19}, {3, 3}, {49, 3}, {50, 2}, {51, 1}, {100, 1}, {101, 0}};
    for (int[] hit : hits) {
      due("at " + hit[0], x.shootAt(0, hit[0]), hit[1]);
    }
    Played y = with("face 100:1 50:2 49:3 2:19 1:20;leg 12 1 0;shaft 1;", 1);
    int[][] shafts = {{2, 20}, {3, 19}, {4, 3}, {50, 3}, {51, 2}, {52, 1}, {101, 1}, {102, 0}};
    for (int[] hit : shafts) {
      due("at " + hit[0] + " with a shaft", y.shootAt(0, -hit[0]), hit[1]);
    }
  }

  private static void hitFarthest() {
    int[] edges = {-20000, 20000};
    for (int x : edges) {
      for (int y : edges) {
        hit(10000, 100, x, y, 0);
      }
      hit(10000, 100, x, 0, 0);
      hit(10000, 100, 0, x, 0);
    }
  }

  // "1 MISSED (0); 2 BOUNCED, 3 PASSED: what the text says", 0 without
  private static void whatTheTextSays() {
    int[][] says = {{0, 0}, {1, 20}, {20, 1}, {20, 20}, {19, 0}};
    for (int[] say : says) {
      Played x = with("face 1:1;leg 3 1 0;bounced " + say[0] + ";passed " + say[1] + ";", 1);
      x.arrow(2, 0, 0);
      due("BOUNCED", x.shoot(0), say[0]);
      x.arrow(3, 0, 0);
      due("PASSED", x.shoot(0), say[1]);
      x.arrow(1, 0, 0);
      due("MISSED", x.shoot(0), 0);
    }
    Played y = with("face 1:1;leg 3 1 0;", 1);
    for (int kind = 1; kind <= 3; kind++) {
      y.arrow(kind, 0, 0);
      due("without a word of it", y.shoot(0), 0);
    }
  }

  /** shoot() answers this, and does no more than to take the ARROWS that were told. */
  private static void noEnd(String why, Bound.Calls before, int a, int want) {
    Bound.refused(why, before, x -> x.shoot(a), want, x -> {
      x.arrow(1, 0, 0);
      x.shoot(16);
    }, 0);
    Played x = new Played();
    before.on(x);
    due(why, x.shoot(a), want);
    due(why + ": they go, in any case", x.arrow(1, 0, 0), 1);
  }

  // "-1 no such ARCHER, no ROUND"
  private static void shootNoSuch() {
    for (int a : NO_ARCHERS) {
      noEnd("shoot(" + a + ")", Bound::rich, a, -1);
      noEnd("shoot(" + a + ") of a whole END", x -> {
        Bound.rich(x);
        x.arrow(0, 0, 0);
      }, a, -1);
    }
    noEnd("no ROUND", x -> {
      x.archers(0, 0, 0);
      x.arrow(0, 0, 0);
    }, 0, -1);
    noEnd("no ROUND, no ARROWS", x -> x.archer(0), 0, -1);
    noEnd("nothing", Bound::nothing, 0, -1);
    Played x = with(ONE, 16);
    due("the last ARCHER", x.shootAt(15, 0), 5);
    due("the first ARCHER", x.shootAt(0, 0), 5);
  }

  // "or all ENDS are shot"
  private static void shootAllEnds() {
    noEnd("all ENDS of two LEGS, as many as the first LEG says", x -> {
      Bound.rich(x);
      x.arrow(0, 0, 0);
    }, 0, -1);
    noEnd("all ENDS, none told", x -> {
      Bound.rich(x);
      x.shoot(16);
    }, 0, -1);
    Played x = with("face 100:5;leg 12 1 0;", 1);
    for (int end = 1; end <= 12; end++) {
      due("END " + end, x.shootAt(0, 0), 5);
    }
    due("a 13th", x.shootAt(0, 0), -1);
    due("twelve", x.told(0, 1), 12);
    due("take one", x.take(0), 11);
    due("the 12th again", x.shootAt(0, 101), 0);
    due("a 13th again", x.shootAt(0, 0), -1);
  }

  // "-2 not so many ARROWS as its LEG says"
  private static void shootNotSoMany() {
    for (int due = 1; due <= 6; due++) {
      String text = "face 100:5;leg 2 " + due + " 0;";
      for (int told = 0; told <= 6; told++) {
        int arrows = told;
        Bound.Calls before = x -> {
          x.round(text);
          x.archers(0, 1, 2);
          for (int k = 0; k < arrows; k++) {
            x.arrow(0, 0, 0);
          }
        };
        if (told == due) {
          Played x = Bound.taken(told + " of " + due, before, y -> y.shoot(2), 5 * due);
          due("an END", x.told(2, 1), 1);
        } else {
          noEnd(told + " of " + due, before, 2, -2);
        }
      }
    }
    noEnd("two of three", Bound::rich, 2, -2);
    noEnd("four of three", x -> {
      Bound.rich(x);
      x.arrow(0, 0, 0);
      x.arrow(0, 0, 0);
    }, 2, -2);
  }

  /** ARROWS by kind and x, for ARCHER 2 of the rich one, whose next END has three. */
  private static Bound.Calls end(int... told) {
    return x -> {
      Bound.rich(x);
      x.shoot(16);
      for (int i = 0; i < told.length; i += 2) {
        x.arrow(told[i], told[i + 1], 0);
      }
    };
  }

  // "-3 an ARROW that is IN one that is not ahead of it"
  private static void shootInNotAhead() {
    for (int k = 0; k < 3; k++) {
      for (int in = 0; in <= 5; in++) {
        int[] told = {0, 0, 0, 0, 0, 0};
        told[2 * k] = 4;
        told[2 * k + 1] = in;
        String why = "ARROW " + k + " IN " + in;
        if (in < k) {
          Bound.taken(why, end(told), x -> x.shoot(2), 30);
        } else {
          noEnd(why, end(told), 2, -3);
        }
      }
    }
    noEnd("alone, IN itself", x -> {
      x.round(ONE);
      x.archer(0);
      x.arrow(4, 0, 0);
    }, 0, -3);
    Played x = with("face 100:5;leg 2 6 0;", 1);
    for (int k = 0; k < 5; k++) {
      x.arrow(0, 0, 0);
    }
    x.arrow(4, 4, 0);
    due("the 6th IN the 5th", x.shoot(0), 30);
    for (int k = 0; k < 5; k++) {
      x.arrow(0, 0, 0);
    }
    x.arrow(4, 5, 0);
    due("the 6th IN itself", x.shoot(0), -3);
    for (int k = 0; k < 5; k++) {
      x.arrow(0, 0, 0);
    }
    x.shoot(16);
    due("an ARROW of an END before is none of this one", x.arrow(4, 0, 0), 1);
    for (int k = 1; k < 6; k++) {
      x.arrow(0, 0, 0);
    }
    due("so it is refused", x.shoot(0), -3);
  }

  // "or MISSED"
  private static void shootInMissed() {
    noEnd("IN a MISSED one", end(1, 0, 4, 0, 0, 0), 2, -3);
    noEnd("the last IN a MISSED one", end(0, 0, 1, 0, 4, 1), 2, -3);
    noEnd("the last IN the first, MISSED", end(1, 0, 0, 0, 4, 0), 2, -3);
    noEnd("IN one that is IN a MISSED one", end(1, 0, 4, 0, 4, 1), 2, -3);
    Bound.taken("a MISSED one beside it", end(1, 0, 0, 0, 4, 1), x -> x.shoot(2), 20);
    Bound.taken("a MISSED one behind it", end(0, 0, 4, 0, 1, 0), x -> x.shoot(2), 20);
    Bound.taken("all MISSED", end(1, 0, 1, 0, 1, 0), x -> x.shoot(2), 0);
  }

  // "it counts as much as that one"
  private static void shootInCountsAsMuch() {
    Bound.taken("IN a HIT beyond all LINES", end(0, 604, 4, 0, 0, 0), x -> x.shoot(2), 10);
    Bound.taken("IN a BOUNCED one", end(2, 0, 4, 0, 1, 0), x -> x.shoot(2), 10);
    Bound.taken("IN a PASSED one", end(3, 0, 4, 0, 1, 0), x -> x.shoot(2), 14);
    Played x = Bound.taken("IN one that is IN one", end(0, 304, 4, 0, 4, 1), y -> y.shoot(2), 15);
    for (int k = 3; k < 6; k++) {
      due("each of them", x.value(2, k), 5);
    }
    Played z = with("face 1:1;leg 1 2 0;", 1);
    z.arrow(2, 0, 0);
    z.arrow(4, 0, 0);
    due("IN a BOUNCED one that counts 0", z.shoot(0), 0);
  }

  private static void shootOrderOfRefusals() {
    noEnd("no such ARCHER, too few, a bad one", end(4, 0), 9, -1);
    noEnd("all ENDS are shot, too few, a bad one", end(4, 0), 0, -1);
    noEnd("too few, a bad one", end(4, 5), 2, -2);
    noEnd("too many, a bad one", end(4, 5, 0, 0, 0, 0, 0, 0), 2, -2);
    noEnd("enough, a bad one", end(4, 5, 0, 0, 0, 0), 2, -3);
    Bound.taken("enough, none bad", end(0, 0, 0, 0, 0, 0), x -> x.shoot(2), 30);
  }

  // "An ARCHER shoots the LEGS' ENDS in order, each with just its LEG's arrows."
  private static void shootLegs() {
    Played x = with("face 100:5;face 50:6;leg 1 1 0;leg 2 6 1;leg 1 2 0;leg 1 3 1;", 2);
    int[] arrows = {1, 6, 6, 2, 3};
    int[] counts = {5, 0, 0, 5, 0};
    for (int end = 0; end < 5; end++) {
      if (arrows[end] > 1) {
        due("one too few for END " + end, x.shootMissed(0, arrows[end] - 1), -2);
      }
      if (arrows[end] < 6) {
        due("one too many for END " + end, x.shootMissed(0, arrows[end] + 1), -2);
      }
      int[] xs = new int[arrows[end]];
      java.util.Arrays.fill(xs, 51);
      due("END " + end, x.shootAt(0, xs), counts[end] * arrows[end]);
    }
    due("behind the last", x.shootMissed(0, 3), -1);
    due("the other is at the first", x.shootMissed(1, 1), 0);
    int[] left = {4, 3, 2, 1, 0, NONE};
    for (int end : left) {
      due("take", x.take(0), end);
    }
    due("from the first LEG on again", x.shootAt(0, 0), 5);
  }

  // "What arrow k (from 0 on ..) .. NONE when there is none such."
  private static void value() {
    for (int a : NO_ARCHERS) {
      refused("value(" + a + ", 0)", x -> x.value(a, 0), NONE);
    }
    for (int k : new int[] {-1, 7, 8, BIG, SMALL}) {
      refused("value(0, " + k + ")", x -> x.value(0, k), NONE);
    }
    refused("of one who shot nothing", x -> x.value(3, 0), NONE);
    refused("one END's fourth", x -> x.value(2, 3), NONE);
    Bound.taken("the first", Bound::rich, x -> x.value(0, 0), 10);
    Bound.taken("the last", Bound::rich, x -> x.value(0, 6), 6);
    Bound.refused("without a ROUND", x -> x.archer(0), x -> x.value(0, 0), NONE);
  }

  private static void valueOf288() {
    Played x = with("face 9:1;leg 12 6 0;leg 12 6 0;leg 12 6 0;leg 12 6 0;", 1);
    for (int end = 0; end < 48; end++) {
      x.shootAt(0, 10, 10, 10, 10, 10, end == 47 ? 0 : 10);
    }
    due("the first of 288", x.value(0, 0), 0);
    due("the last but one of 288", x.value(0, 286), 0);
    due("the last of 288", x.value(0, 287), 1);
    due("one more", x.value(0, 288), NONE);
    due("a 49th END", x.shootMissed(0, 6), -1);
    due("take the last", x.take(0), 47);
    due("its first is gone", x.value(0, 282), NONE);
    due("the one before is not", x.value(0, 281), 0);
  }

  // "NONE: no such ARCHER, or none was shot (a SHOOT-OFF stays)."
  private static void take() {
    for (int a : NO_ARCHERS) {
      refused("take(" + a + ")", x -> x.take(a), NONE);
    }
    refused("none was shot", x -> x.take(3), NONE);
    Bound.refused("all taken", x -> {
      Bound.rich(x);
      x.take(2);
    }, x -> x.take(2), NONE);
    Bound.refused("no ROUND", x -> x.archer(0), x -> x.take(0), NONE);
    Played x = new Played();
    Bound.rich(x);
    for (int left = 2; left >= 0; left--) {
      due("take", x.take(0), left);
      due("ENDS", x.told(0, 1), left);
      due("SHOOT-OFFS stay", x.told(0, 4), 2);
    }
    due("a fourth", x.take(0), NONE);
    due("TOTAL", x.told(0, 2), 0);
    due("the last END", x.told(0, 3), 0);
    due("SHOOT-OFFS still", x.told(0, 4), 2);
    due("no value", x.value(0, 0), NONE);
  }

  // "of an ARCHER who has shot all ENDS"
  private static void offAllEnds() {
    for (int a : NO_ARCHERS) {
      refused("off of " + a, x -> x.off(a, 0, 0, 0), NONE);
    }
    refused("none of three ENDS", x -> x.off(3, 0, 0, 0), NONE);
    refused("one of three ENDS", x -> x.off(2, 1, 0, 0), NONE);
    Bound.Calls two = x -> {
      Bound.rich(x);
      x.shoot(16);
      x.shootMissed(2, 3);
    };
    Bound.refused("two of three ENDS", two, x -> x.off(2, 0, 0, 0), NONE);
    Bound.taken("three of three ENDS", x -> {
      two.on(x);
      x.shootMissed(2, 1);
    }, x -> x.off(2, 0, 0, 0), 1);
    Bound.refused("one taken back", x -> {
      Bound.rich(x);
      x.take(0);
    }, x -> x.off(0, 0, 0, 0), NONE);
    Bound.refused("no ROUND", x -> x.archer(0), x -> x.off(0, 0, 0, 0), NONE);
    Bound.refused("another ROUND", x -> {
      Bound.rich(x);
      x.round(ONE);
    }, x -> x.off(0, 0, 0, 0), NONE);
  }

  // "(8 at most)"
  private static void offEightAtMost() {
    Bound.Calls eight = x -> {
      Bound.rich(x);
      for (int k = 2; k < 8; k++) {
        x.off(0, k % 2, k, 0);
      }
    };
    Bound.Calls seven = x -> {
      Bound.rich(x);
      for (int k = 2; k < 7; k++) {
        x.off(0, k % 2, k, 0);
      }
    };
    Bound.taken("an 8th", seven, x -> x.off(0, 0, 1, 1), 8);
    Bound.taken("an 8th, MISSED", seven, x -> x.off(0, 1, 0, 0), 8);
    Bound.refused("a 9th", eight, x -> x.off(0, 0, 0, 0), NONE);
    Bound.refused("a 9th, MISSED", eight, x -> x.off(0, 1, 0, 0), NONE);
    Bound.taken("of another", eight, x -> x.off(1, 1, 0, 0), 2);
    Bound.taken("an 8th again, behind undo()", x -> {
      eight.on(x);
      x.undo();
    }, x -> x.off(0, 0, 0, 0), 8);
  }

  // "HIT at x, y (-20000 .. 20000), or MISSED (kind 1)", "NONE when that can't be"
  private static void offKindsAndPlaces() {
    for (int kind : new int[] {-1, 2, 3, 4, 5, BIG, SMALL}) {
      refused("off of kind " + kind, x -> x.off(0, kind, 0, 0), NONE);
    }
    int[] good = {-20000, -19999, 0, 19999, 20000};
    for (int at : good) {
      for (int other : good) {
        Bound.taken("off at " + at + ", " + other, Bound::rich, x -> x.off(0, 0, at, other), 3);
      }
      for (int far : new int[] {-20001, 20001, BIG, SMALL, 65536}) {
        refused("off at " + at + ", " + far, x -> x.off(0, 0, at, far), NONE);
        refused("off at " + far + ", " + at, x -> x.off(0, 0, far, at), NONE);
        Bound.taken("MISSED anywhere", Bound::rich, x -> x.off(0, 1, far, at), 3);
        Bound.taken("MISSED anywhere", Bound::rich, x -> x.off(0, 1, at, far), 3);
      }
    }
  }

  // "(a SHOOT-OFF stays)": those told before an END was taken back count behind it, by number
  private static void offStays() {
    Played x = with(ONE + "nearest;", 2);
    x.shootAt(0, 0);
    x.shootAt(1, 0);
    due("first of 0", x.off(0, 0, 3, 0), 1);
    due("first of 1", x.off(1, 0, 2, 0), 1);
    due("take", x.take(0), 0);
    due("shot again", x.shootAt(0, 0), 5);
    due("the first is as it was", x.ahead(0, 1), -1);
    due("the second of 0", x.off(0, 0, 0, 0), 2);
    due("it does not decide", x.ahead(0, 1), -1);
  }

  // "-2: no such ARCHERS, or no ROUND."
  private static void aheadRefuses() {
    for (int a : NO_ARCHERS) {
      refused("ahead(" + a + ", 0)", x -> x.ahead(a, 0), -2);
      refused("ahead(0, " + a + ")", x -> x.ahead(0, a), -2);
      refused("ahead of none", x -> x.ahead(a, a), -2);
    }
    Bound.refused("no ROUND", x -> x.archers(0, 0), x -> x.ahead(0, 1), -2);
    Bound.refused("no ROUND, oneself", x -> x.archer(0), x -> x.ahead(0, 0), -2);
    Bound.refused("nothing", Bound::nothing, x -> x.ahead(0, 0), -2);
    Bound.taken("of oneself", Bound::rich, x -> x.ahead(3, 3), 0);
    Played x = with(ONE, 16);
    x.shootAt(15, 0);
    due("the last ahead", x.ahead(15, 0), 1);
    due("the first behind", x.ahead(0, 15), -1);
  }

  private static void order(String why, Played x, int want) {
    due(why, x.ahead(0, 1), want);
    due(why + ", turned", x.ahead(1, 0), -want);
    due(why + ", rank of 0", x.rank(0), want < 0 ? 2 : 1);
    due(why + ", rank of 1", x.rank(1), want > 0 ? 2 : 1);
  }

  // "more by TOTAL is ahead"
  private static void aheadByTotal() {
    Played x = with("face 20:19 10:20;leg 2 1 0;most 19;last;", 2);
    order("nothing shot", x, 0);
    x.shootAt(0, 0);
    x.shootAt(1, 15);
    order("20 and 19", x, 1);
    x.take(0);
    order("0 and 19", x, -1);
    x.shootAt(0, 15);
    order("19 and 19", x, 0);
    x.shootAt(0, 21);
    order("19 and 0 more, the last END of 0", x, -1);
    Played y = with("face 10:1;leg 2 2 0;", 2);
    y.shootMissed(0, 2);
    order("0 without an END, and with one", y, 0);
    y.shootAt(1, 0, 11);
    order("a single 1", y, -1);
  }

  // "most v: who has more arrows of that value"
  private static void aheadByMost() {
    int[] ahead = {1, -1, 1, 0, 0};
    for (int value = 0; value <= 4; value++) {
      // Both have 4: 2 2 0 against 2 1 1.
      Played x = with("face 30:1 20:2 10:3;leg 1 3 0;most " + value + ";", 2);
      x.shootAt(0, 15, 15, 31);
      x.shootAt(1, 15, 25, 25);
      order("2 2 0 and 2 1 1 by most " + value, x, ahead[value]);
    }
    Played y = with("face 10:20;leg 2 2 0;most 20;most 0;bounced 20;", 2);
    y.arrow(2, 0, 0);
    y.arrow(4, 0, 0);
    due("BOUNCED 20, and one IN it", y.shoot(0), 40);
    due("two HITS of 20", y.shootAt(1, 0, 10), 40);
    order("as many of 20", y, 0);
    due("MISSED counts 0", y.shootMissed(0, 2), 0);
    order("two of 0 more", y, 1);
    due("beyond all LINES counts 0", y.shootAt(1, 11, 20000), 0);
    order("as many of 0", y, 0);
  }

  // "last: who has more in the last END shot (0 without one)"
  private static void aheadByLast() {
    Played x = with("face 30:1 20:2 10:3;leg 3 1 0;last;", 2);
    due("MISSED", x.shootMissed(0, 1), 0);
    order("a last END of 0, and none", x, 0);
    x.shootAt(1, 15);
    x.shootAt(0, 15);
    order("the last END shot, not the one of the same number", x, 0);
    x.shootAt(1, 25);
    x.shootAt(0, 25);
    order("3 in all, the last END of 1 both", x, 0);
    Played y = with("face 30:1 20:2 10:3;leg 3 1 0;last;", 2);
    y.shootAt(0, 15);
    y.shootAt(0, 25);
    y.shootAt(1, 25);
    y.shootAt(1, 15);
    order("1 and 2 in the last END", y, -1);
    y.take(1);
    y.take(0);
    y.take(0);
    y.shootAt(0, 25);
    order("behind take()", y, 0);
  }

  // "who has the lesser square", "the first number with unlike squares", "MISSED and what was not
  // shot being beyond all"
  private static void aheadByNearest() {
    int[][] offs = {
        // kind, x, y of both, and who is ahead
        {0, 0, 0, 0, 0, 0, 0}, {0, 0, 0, 0, 0, 1, 1}, {0, 1, 1, 0, 0, 1, -1},
        {0, 3, 4, 0, -5, 0, 0}, {0, 3, 4, 0, 4, -3, 0}, {0, 3, 4, 0, 5, 1, 1},
        {0, 19999, 20000, 0, 20000, 20000, 1}, {0, -20000, 20000, 0, 20000, -20000, 0},
        {0, 20000, 20000, 1, 0, 0, 1}, {1, 0, 0, 0, 20000, 20000, -1}, {1, 0, 0, 1, 5, 5, 0},
        {0, 20000, 20000, -1, 0, 0, 1}, {-1, 0, 0, 0, 20000, 20000, -1}, {1, 0, 0, -1, 0, 0, 0},
        {-1, 0, 0, 1, 0, 0, 0}, {-1, 0, 0, -1, 0, 0, 0}};
    for (int[] off : offs) {
      for (int same = 0; same < 8; same++) {
        Played x = with(ONE + "nearest;", 2);
        x.shootAt(0, 0);
        x.shootAt(1, 0);
        for (int k = 0; k < same; k++) {
          x.off(0, k % 2, 7, k);
          x.off(1, k % 2, -k, 7);
        }
        if (off[0] != NONE) {
          x.off(0, off[0], off[1], off[2]);
        }
        if (off[3] != NONE) {
          x.off(1, off[3], off[4], off[5]);
        }
        order("SHOOT-OFF behind " + same + " alike", x, off[6]);
      }
    }
  }

  private static void aheadByTheEighth() {
    Played x = with(ONE + "nearest;", 2);
    x.shootAt(0, 0);
    x.shootAt(1, 0);
    for (int k = 0; k < 8; k++) {
      x.off(0, 0, 1, 0);
    }
    order("eight, and none", x, 1);
    for (int k = 0; k < 7; k++) {
      x.off(1, 0, 0, 1);
      order("eight, and fewer", x, 1);
    }
    x.off(1, 0, 0, -1);
    order("eight alike", x, 0);
    due("a 9th is refused", x.off(1, 0, 0, 0), NONE);
    order("still alike", x, 0);
  }

  // "then TIE by TIE": the last of 6 decides where those ahead of it do not
  private static void aheadByTheSixthTie() {
    String text = "face 30:1 20:2 10:3;leg 1 2 0;most 9;most 8;most 7;most 6;most 5;";
    String[] sixth = {"", "most 3;", "most 2;", "most 1;", "last;", "nearest;"};
    int[] ahead = {0, 1, -1, 1, 0, -1};
    for (int i = 0; i < sixth.length; i++) {
      Played x = with(text + sixth[i], 2);
      x.shootAt(0, 0, 25);
      x.shootAt(1, 15, 15);
      x.off(1, 0, 0, 0);
      order("3 1 and 2 2 by " + sixth[i], x, ahead[i]);
    }
  }

  // "NONE when there is none such, or no ROUND."
  private static void rankRefuses() {
    for (int a : NO_ARCHERS) {
      refused("rank(" + a + ")", x -> x.rank(a), NONE);
    }
    Bound.refused("no ROUND", x -> x.archer(0), x -> x.rank(0), NONE);
    Bound.refused("nothing", Bound::nothing, x -> x.rank(0), NONE);
    Bound.refused("no ROUND by a FAULT", x -> {
      x.archer(0);
      x.round("leg");
    }, x -> x.rank(0), NONE);
    Bound.taken("alone", x -> {
      x.round(ONE);
      x.archer(0);
    }, x -> x.rank(0), 1);
  }

  // "How many are ahead of an ARCHER, and one more"
  private static void rankOneToSixteen() {
    Played x = with("face 20:1 19:2 18:3 17:4 16:5 15:6 14:7 13:8 12:9 11:10 10:20;leg 1 2 0;", 16);
    for (int a = 0; a < 16; a++) {
      due("all alike", x.rank(a), 1);
    }
    for (int a = 0; a < 16; a++) {
      // Sums 0 to 15: up to 10 by the first arrow, the rest by the second.
      int first = Math.min(a, 10);
      x.shootAt(a, 21 - first, 21 - (a - first));
      due("the sum", x.told(a, 2), a);
    }
    for (int a = 0; a < 16; a++) {
      due("rank of " + a, x.rank(a), 16 - a);
    }
    due("the first goes", x.leave(15), 1);
    due("the last's rank", x.rank(0), 15);
    due("the new first", x.rank(14), 1);
    due("one comes", x.archer(0), 15);
    due("beside the last", x.rank(15), 15);
    due("who is as far as before", x.rank(0), 15);
  }
}
