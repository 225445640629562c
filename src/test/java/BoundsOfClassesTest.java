/** The boundary cases of days, scores and class laws: Terms III, and promises 17 to 21. */
public final class BoundsOfClassesTest {
  private static final int NONE = ArcheryField.NONE;
  private static final int BIG = Bound.BIG;
  private static final int SMALL = Bound.SMALL;
  private static final int[] NO_ARCHERS = {-1, 4, 15, 16, BIG, SMALL};
  private static final int[] NO_DAYS = {-1, 36501, 36502, BIG, SMALL};
  private static final int[] NO_SCORES = {-1, 2001, 2002, BIG, SMALL};

  private BoundsOfClassesTest() {
  }

  public static void main(String[] args) {
    todayBounds();
    todayBeforeToday();
    scoreBounds();
    scoreThirty();
    strikeBounds();
    strikeOnce();
    lawBounds();
    lawSix();
    kindBounds();
    kind365Days();
    kindFirstAndLastDay();
    kindAtLeast();
    kindSoMany();
    kindFirstLaw();
    kindKnownFromToday();
    kindStruckFromToday();
    kindToldAndStruckOnOneDay();
    kindOfADayToCome();
    Check.close("BoundsOfClassesTest");
  }

  private static void due(String why, int got, int want) {
    Check.due(why, got, want);
  }

  private static void refused(String why, Bound.Call call, int want) {
    Bound.refused(why, Bound::rich, call, want);
  }

  // "a day (0 .. 36500)", "false if it is .. none"
  private static void todayBounds() {
    for (int day : NO_DAYS) {
      refused("today(" + day + ")", x -> x.today(day), 0);
      Bound.refused("the first today(" + day + ")", Bound::nothing, x -> x.today(day), 0);
    }
    Bound.taken("today(0)", Bound::nothing, x -> x.today(0), 1);
    Bound.taken("today(1)", Bound::nothing, x -> x.today(1), 1);
    Bound.taken("today(36499)", Bound::nothing, x -> x.today(36499), 1);
    Bound.taken("today(36500)", Bound::nothing, x -> x.today(36500), 1);
    Bound.taken("36500 again", x -> x.today(36500), x -> x.today(36500), 1);
    Bound.refused("36499 behind 36500", x -> x.today(36500), x -> x.today(36499), 0);
    Bound.refused("36501 behind 36500", x -> x.today(36500), x -> x.today(36501), 0);
  }

  // "false if it is before TODAY"
  private static void todayBeforeToday() {
    refused("the day before TODAY", x -> x.today(59), 0);
    refused("day 0", x -> x.today(0), 0);
    Bound.taken("TODAY itself", Bound::rich, x -> x.today(60), 1);
    Bound.taken("the day behind it", Bound::rich, x -> x.today(61), 1);
    Played x = new Played();
    for (int day = 1; day <= 100; day++) {
      due("a day on", x.today(day), 1);
      due("a day back", x.today(day - 1), 0);
    }
  }

  // "a day (0 .. 36500), a score (0 .. 2000)", "NONE when that can't be."
  private static void scoreBounds() {
    for (int a : NO_ARCHERS) {
      refused("score of " + a, x -> x.score(a, 0, 0), NONE);
    }
    for (int day : NO_DAYS) {
      refused("score on day " + day, x -> x.score(0, day, 0), NONE);
      refused("first score on day " + day, x -> x.score(3, day, 0), NONE);
    }
    for (int score : NO_SCORES) {
      refused("score of " + score, x -> x.score(0, 0, score), NONE);
      refused("first score of " + score, x -> x.score(3, 0, score), NONE);
    }
    Bound.refused("no ARCHERS", Bound::nothing, x -> x.score(0, 0, 0), NONE);
    int[] days = {0, 1, 59, 60, 61, 36499, 36500};
    int[] scores = {0, 1, 1999, 2000};
    for (int day : days) {
      for (int score : scores) {
        Bound.taken("a third score", Bound::rich, x -> x.score(0, day, score), 2);
        Played y = Bound.taken("a first score", Bound::rich, x -> x.score(3, day, score), 0);
        due("SCORES told", y.told(3, 5), 1);
      }
    }
  }

  private static void thirty(Played x) {
    Bound.rich(x);
    for (int k = 2; k < 30; k++) {
      x.score(0, k, k);
    }
  }

  // "its number for them (from 0 on; 30 at most)"
  private static void scoreThirty() {
    Played x = new Played();
    x.archers(0, 0);
    for (int k = 0; k < 30; k++) {
      due("the number of a SCORE", x.score(1, k, k), k);
      due("SCORES told", x.told(1, 5), k + 1);
    }
    due("a 31st", x.score(1, 0, 0), NONE);
    due("thirty", x.told(1, 5), 30);
    due("those of another", x.score(0, 0, 0), 0);
    Bound.refused("a 31st", BoundsOfClassesTest::thirty, y -> y.score(0, 0, 0), NONE);
    Bound.refused("a 31st behind a STRUCK one", y -> {
      thirty(y);
      y.strike(0, 29);
    }, y -> y.score(0, 0, 0), NONE);
    Bound.taken("a 30th", y -> {
      thirty(y);
      y.undo();
    }, y -> y.score(0, 0, 0), 29);
    Bound.taken("the first again, when another has the number", y -> {
      thirty(y);
      y.leave(0);
      y.archer(0);
    }, y -> y.score(0, 0, 0), 0);
  }

  // "false when there is none such"
  private static void strikeBounds() {
    for (int a : NO_ARCHERS) {
      refused("strike of " + a, x -> x.strike(a, 0), 0);
    }
    for (int k : new int[] {-1, 2, 3, 29, 30, BIG, SMALL, 1 << 30, 0x40000001, -1 << 30}) {
      refused("strike(0, " + k + ")", x -> x.strike(0, k), 0);
    }
    refused("of one without SCORES", x -> x.strike(3, 0), 0);
    Bound.taken("the first", Bound::rich, x -> x.strike(1, 0), 1);
    Bound.taken("the last", Bound::rich, x -> x.strike(0, 1), 1);
    Bound.taken("the last of thirty", BoundsOfClassesTest::thirty, x -> x.strike(0, 29), 1);
    Bound.refused("one more", BoundsOfClassesTest::thirty, x -> x.strike(0, 30), 0);
    Bound.refused("no ARCHERS", Bound::nothing, x -> x.strike(0, 0), 0);
  }

  // "or it was"
  private static void strikeOnce() {
    refused("one that was STRUCK today", x -> x.strike(0, 0), 0);
    Bound.refused("one that was STRUCK before", x -> {
      Bound.rich(x);
      x.today(61);
    }, x -> x.strike(0, 0), 0);
    Played x = new Played();
    x.archer(0);
    for (int k = 0; k < 30; k++) {
      x.score(0, k, k);
    }
    for (int k = 0; k < 30; k++) {
      due("strike", x.strike(0, k), 1);
      due("strike again", x.strike(0, k), 0);
    }
    due("STRUCK ones are told still", x.told(0, 5), 30);
  }

  // "a class (1 .. 9), how many scores (1 .. 5), of how much at least", "NONE when that can't be."
  private static void lawBounds() {
    for (int kind : new int[] {0, -1, 10, 11, BIG, SMALL}) {
      refused("law of class " + kind, x -> x.law(kind, 1, 0), NONE);
      Bound.refused("first law of class " + kind, Bound::nothing, x -> x.law(kind, 1, 0), NONE);
    }
    for (int many : new int[] {0, -1, 6, 7, BIG, SMALL}) {
      refused("law of " + many, x -> x.law(1, many, 0), NONE);
    }
    for (int score : NO_SCORES) {
      refused("law of at least " + score, x -> x.law(1, 1, score), NONE);
    }
    for (int kind = 1; kind <= 9; kind++) {
      for (int many = 1; many <= 5; many++) {
        int number = kind;
        int scores = many;
        Bound.taken("law of 0", Bound::rich, x -> x.law(number, scores, 0), 3);
        Bound.taken("law of 2000", Bound::rich, x -> x.law(number, scores, 2000), 3);
      }
    }
  }

  // "CLASS LAWS, in order (6 at most)"
  private static void lawSix() {
    Played x = new Played();
    for (int many = 1; many <= 6; many++) {
      due("law", x.law(1, 1, 0), many);
    }
    due("a 7th", x.law(1, 1, 0), NONE);
    Bound.Calls six = y -> {
      Bound.rich(y);
      for (int many = 3; many <= 6; many++) {
        y.law(many, 1, 0);
      }
    };
    Bound.refused("a 7th", six, y -> y.law(9, 1, 0), NONE);
    Bound.taken("a 6th again", y -> {
      six.on(y);
      y.undo();
    }, y -> y.law(9, 1, 0), 6);
  }

  // "(0 .. 36500 each); NONE when there is none such."
  private static void kindBounds() {
    for (int a : NO_ARCHERS) {
      refused("class of " + a, x -> x.kind(a, 0, 0), NONE);
    }
    for (int day : NO_DAYS) {
      refused("class on day " + day, x -> x.kind(0, day, 60), NONE);
      refused("class as KNOWN on day " + day, x -> x.kind(0, 400, day), NONE);
      refused("class on day and KNOWN on " + day, x -> x.kind(0, day, day), NONE);
    }
    Bound.refused("no ARCHERS", Bound::nothing, x -> x.kind(0, 0, 0), NONE);
    int[] days = {0, 1, 36499, 36500};
    for (int day : days) {
      for (int known : days) {
        Bound.taken("0 without a LAW", x -> x.archer(0), x -> x.kind(0, day, known), 0);
        Bound.taken("0 without SCORES", Bound::rich, x -> x.kind(3, day, known), 0);
      }
    }
  }

  /** One LAW (class 4, so many scores of at least 500), one ARCHER. */
  private static Played law(int many) {
    Played x = new Played();
    x.archer(0);
    x.law(4, many, 500);
    return x;
  }

  // "of the 365 days up to that day (and with it)"
  private static void kind365Days() {
    int[] days = {0, 1, 364, 365, 1000, 36135, 36136};
    for (int day : days) {
      Played x = law(1);
      x.score(0, day, 500);
      if (day > 0) {
        due("the day before it", x.kind(0, day - 1, 0), 0);
      }
      due("the day itself", x.kind(0, day, 0), 4);
      due("a day behind it", x.kind(0, day + 1, 0), 4);
      due("the last of the 365 days", x.kind(0, day + 364, 0), 4);
      due("the day behind them", x.kind(0, day + 365, 0), day + 365 > 36500 ? NONE : 0);
    }
    Played y = law(2);
    y.score(0, 1000, 500);
    y.score(0, 1364, 500);
    due("both on the 365th day", y.kind(0, 1364, 0), 4);
    due("one on the 366th", y.kind(0, 1365, 0), 0);
    due("one before", y.kind(0, 1363, 0), 0);
    Played z = law(2);
    z.score(0, 1000, 500);
    z.score(0, 1365, 500);
    due("365 days from one to the other: never both", z.kind(0, 1364, 0), 0);
    due("nor a day later", z.kind(0, 1365, 0), 0);
  }

  private static void kindFirstAndLastDay() {
    Played x = law(1);
    x.score(0, 0, 500);
    x.score(0, 36500, 500);
    due("day 0", x.kind(0, 0, 0), 4);
    due("day 364", x.kind(0, 364, 0), 4);
    due("day 365", x.kind(0, 365, 0), 0);
    due("day 36499", x.kind(0, 36499, 0), 0);
    due("day 36500", x.kind(0, 36500, 0), 4);
    due("day 36500 as KNOWN on 36500", x.kind(0, 36500, 36500), 4);
  }

  // "of how much at least"
  private static void kindAtLeast() {
    int[] least = {0, 1, 500, 1999, 2000};
    for (int score : least) {
      Played x = new Played();
      x.archers(0, 0, 0);
      x.law(7, 1, score);
      x.score(0, 9, score);
      due("as much", x.kind(0, 9, 0), 7);
      if (score > 0) {
        x.score(1, 9, score - 1);
        due("one less", x.kind(1, 9, 0), 0);
      }
      if (score < 2000) {
        x.score(2, 9, score + 1);
        due("one more", x.kind(2, 9, 0), 7);
      }
    }
  }

  // "for which so many scores .. are there"
  private static void kindSoMany() {
    for (int many = 1; many <= 5; many++) {
      Played x = law(many);
      for (int told = 1; told <= 6; told++) {
        x.score(0, 9, 500);
        x.score(0, 9, 499);
        due(told + " of " + many, x.kind(0, 9, 0), told >= many ? 4 : 0);
      }
      for (int struck = 1; struck <= 6; struck++) {
        x.strike(0, 2 * struck - 2);
        due((6 - struck) + " of " + many, x.kind(0, 9, 0), 6 - struck >= many ? 4 : 0);
      }
    }
    Played y = law(5);
    for (int k = 0; k < 30; k++) {
      y.score(0, k < 25 ? 1 : 2, k < 25 ? 499 : 500);
    }
    due("the last five of thirty", y.kind(0, 2, 0), 4);
    y.strike(0, 29);
    due("the last one STRUCK", y.kind(0, 2, 0), 0);
  }

  // "of the first LAW for which ..; 0 without one"
  private static void kindFirstLaw() {
    Played x = new Played();
    x.archer(0);
    int[] classes = {9, 1, 8, 2, 7, 3};
    for (int k = 0; k < 6; k++) {
      x.law(classes[k], 1, 600 - 100 * k);
    }
    int[] scores = {99, 100, 199, 200, 299, 300, 399, 400, 499, 500, 599, 600, 601};
    int[] want = {0, 3, 3, 7, 7, 2, 2, 8, 8, 1, 1, 9, 9};
    for (int k = 0; k < scores.length; k++) {
      x.score(0, 9, scores[k]);
      due("class by " + scores[k], x.kind(0, 9, 0), want[k]);
    }
    Played y = new Played();
    y.archer(0);
    y.law(5, 1, 0);
    y.law(1, 1, 0);
    y.score(0, 0, 0);
    due("the first of two that fit", y.kind(0, 0, 0), 5);
  }

  // "KNOWN from the TODAY at which they are told"
  private static void kindKnownFromToday() {
    int[] todays = {0, 1, 50, 36499, 36500};
    for (int today : todays) {
      Played x = law(1);
      x.today(today);
      x.score(0, 10, 500);
      if (today > 0) {
        due("the day before", x.kind(0, 10, today - 1), 0);
        due("day 0", x.kind(0, 10, 0), 0);
      }
      due("that day", x.kind(0, 10, today), 4);
      due("the last day", x.kind(0, 10, 36500), 4);
    }
  }

  // "they may be STRUCK, which is KNOWN likewise"
  private static void kindStruckFromToday() {
    int[] todays = {1, 50, 36499, 36500};
    for (int today : todays) {
      Played x = law(1);
      x.score(0, 10, 500);
      x.today(today);
      x.strike(0, 0);
      due("the day before", x.kind(0, 10, today - 1), 4);
      due("day 0", x.kind(0, 10, 0), 4);
      due("that day", x.kind(0, 10, today), 0);
      due("the last day", x.kind(0, 10, 36500), 0);
    }
    Played y = law(1);
    y.today(20);
    y.score(0, 10, 500);
    y.today(21);
    y.strike(0, 0);
    due("not yet told", y.kind(0, 10, 19), 0);
    due("on the one day between", y.kind(0, 10, 20), 4);
    due("STRUCK", y.kind(0, 10, 21), 0);
  }

  private static void kindToldAndStruckOnOneDay() {
    int[] todays = {0, 7, 36500};
    for (int today : todays) {
      Played x = law(1);
      x.today(today);
      x.score(0, 10, 500);
      x.strike(0, 0);
      int[] known = {0, Math.max(0, today - 1), today, 36500};
      for (int day : known) {
        due("never there", x.kind(0, 10, day), 0);
      }
    }
  }

  // The day of a SCORE and the day from which it is KNOWN do not bind one another.
  private static void kindOfADayToCome() {
    Played x = law(1);
    x.today(5);
    due("a day to come", x.score(0, 36500, 500), 0);
    due("KNOWN on 5", x.kind(0, 36500, 5), 4);
    due("not KNOWN on 4", x.kind(0, 36500, 4), 0);
    due("a day that is over", x.score(0, 0, 500), 1);
    due("KNOWN on 5", x.kind(0, 0, 5), 4);
    due("not KNOWN on that day", x.kind(0, 0, 0), 0);
    due("as KNOWN on a day to come", x.kind(0, 0, 36500), 4);
  }
}
