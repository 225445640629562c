/**
 * All that can be seen of an object, in several ways: some of them change it, and one object has
 * 512 calls only, so each way is gone on an object of its own.
 */
final class Look {
  /** The answers of round() before; a call that ends in a fault changes these. */
  static final int FAULT = 1;
  /** What undo() would bring back; a change that was taken back leaves one less. */
  static final int UNDO = 2;

  private static final int PLAIN_WAYS = 5;
  private static final int END_WAYS = 7;
  private static final int UNDO_WAYS = 5;
  private static final int[] DAYS = {0, 10, 374, 375, 400, 764, 36500};
  private static final int[] KNOWN = {0, 50, 59, 60, 36500};

  private Look() {
  }

  /** How many ways there are to look, without those that the caller leaves out. */
  static int ways(int without) {
    int ways = PLAIN_WAYS + END_WAYS;
    return (without & UNDO) == 0 ? ways + UNDO_WAYS : ways;
  }

  static String at(Played x, int way, int without) {
    StringBuilder seen = new StringBuilder();
    if (way == 0) {
      numbers(x, seen, without);
    } else if (way == 1) {
      shots(x, seen);
    } else if (way == 2) {
      classes(x, seen);
    } else if (way == 3) {
      see(seen, "today", today(x));
    } else if (way == 4) {
      tape(x, seen);
    } else if (way < PLAIN_WAYS + END_WAYS) {
      endToCome(x, seen, way - PLAIN_WAYS);
    } else {
      for (int back = PLAIN_WAYS + END_WAYS; back <= way; back++) {
        see(seen, "undo", x.undo());
      }
      numbers(x, seen, without);
      see(seen, "today", today(x));
    }
    return seen.toString();
  }

  private static void see(StringBuilder seen, String what, int answer) {
    seen.append(what).append(' ').append(answer).append('\n');
  }

  private static boolean isThere(Played x, int a) {
    return x.told(a, 0) != ArcheryField.NONE;
  }

  private static void numbers(Played x, StringBuilder seen, int without) {
    for (int what = 0; what < 8; what++) {
      see(seen, "of " + what, x.of(what));
    }
    for (int what = 0; what < 2 && (without & FAULT) == 0; what++) {
      see(seen, "fault " + what, x.fault(what));
    }
    for (int a = 0; a < 16; a++) {
      boolean isThere = isThere(x, a);
      for (int what = 0; what < 7 && isThere; what++) {
        see(seen, "told " + a + " " + what, x.told(a, what));
      }
      see(seen, "rank " + a, isThere ? x.rank(a) : 0);
    }
    for (int place = 0; place < 16; place++) {
      see(seen, "on " + place, x.on(place));
    }
    for (int lane = 0; lane < 8; lane++) {
      see(seen, "state " + lane, x.state(lane));
    }
  }

  private static void shots(Played x, StringBuilder seen) {
    for (int a = 0; a < 16; a++) {
      for (int k = 0, value = 0; value != ArcheryField.NONE && x.calls() < 480; k++) {
        value = x.value(a, k);
        see(seen, "value " + a + " " + k, value);
      }
    }
    for (int a = 0; a < 4 && x.calls() < 480; a++) {
      for (int b = 0; b < 4; b++) {
        see(seen, "ahead " + a + " " + b, x.ahead(a, b));
      }
    }
  }

  private static void classes(Played x, StringBuilder seen) {
    for (int a = 0; a < 3; a++) {
      for (int day : DAYS) {
        for (int known : KNOWN) {
          see(seen, "kind " + a + " " + day + " " + known, x.kind(a, day, known));
        }
      }
    }
    for (int k = 0; k < 7; k++) {
      see(seen, "law", x.law(1, 1, 0));
    }
    for (int a = 0; a < 3; a++) {
      for (int k = 0; k < x.told(a, 5); k++) {
        see(seen, "strike " + a + " " + k, x.strike(a, k));
      }
    }
  }

  /** The least day that today() takes, found by halves; each one that is taken is undone. */
  private static int today(Played x) {
    int least = 0;
    int most = 36501;
    while (least < most) {
      int day = (least + most) / 2;
      if (x.today(day) == 1) {
        x.undo();
        most = day;
      } else {
        least = day + 1;
      }
    }
    return least;
  }

  private static void tape(Played x, StringBuilder seen) {
    see(seen, "feed", x.feed("                    ", 0));
    see(seen, "round", x.round());
    see(seen, "fault 0", x.fault(0));
    see(seen, "fault 1", x.fault(1));
    for (int what = 0; what < 8; what++) {
      see(seen, "of " + what, x.of(what));
    }
  }

  /** The ARROWS told, with so many MISSED behind them, are shot by each of the first ARCHERS. */
  private static void endToCome(Played x, StringBuilder seen, int missed) {
    for (int k = 0; k < missed; k++) {
      see(seen, "arrow", x.arrow(1, 0, 0));
    }
    see(seen, "shoot", x.shoot(2));
    for (int k = 0; k < 10; k++) {
      see(seen, "value " + k, x.value(2, k));
    }
  }
}
