/**
 * An object that is used as the document allows: the calls are counted, and a test that needs more
 * than 512 of them fails. A boolean counts 1 or 0.
 */
final class Played {
  static final int MOST_CALLS = 512;

  private final ArcheryField field = new ArcheryField();
  private int calls = 0;

  private ArcheryField called() {
    calls++;
    if (calls == MOST_CALLS + 1) {
      Check.fail("a test made more than 512 calls on one object");
    }
    return field;
  }

  int calls() {
    return calls;
  }

  int feed(int a, int b, int c, int d, int e) {
    return called().feed(a, b, c, d, e);
  }

  int end(int n) {
    return called().end(n) ? 1 : 0;
  }

  int round() {
    return called().round();
  }

  int fault(int what) {
    return called().fault(what);
  }

  int of(int what) {
    return called().of(what);
  }

  int archer(int club) {
    return called().archer(club);
  }

  int leave(int a) {
    return called().leave(a) ? 1 : 0;
  }

  int told(int a, int what) {
    return called().told(a, what);
  }

  int arrow(int kind, int x, int y) {
    return called().arrow(kind, x, y);
  }

  int shoot(int a) {
    return called().shoot(a);
  }

  int value(int a, int k) {
    return called().value(a, k);
  }

  int take(int a) {
    return called().take(a);
  }

  int off(int a, int kind, int x, int y) {
    return called().off(a, kind, x, y);
  }

  int ahead(int a, int b) {
    return called().ahead(a, b);
  }

  int rank(int a) {
    return called().rank(a);
  }

  int today(int day) {
    return called().today(day) ? 1 : 0;
  }

  int score(int a, int day, int score) {
    return called().score(a, day, score);
  }

  int strike(int a, int k) {
    return called().strike(a, k) ? 1 : 0;
  }

  int law(int kind, int many, int score) {
    return called().law(kind, many, score);
  }

  int kind(int a, int day, int known) {
    return called().kind(a, day, known);
  }

  int bay(int lanes) {
    return called().bay(lanes);
  }

  int layout() {
    return called().layout();
  }

  int on(int place) {
    return called().on(place);
  }

  int lane(int lane, int state) {
    return called().lane(lane, state);
  }

  int state(int lane) {
    return called().state(lane);
  }

  int undo() {
    return called().undo();
  }

  /** The next twenty signs of a text from a place on, with blanks behind it. */
  int feed(String text, int at) {
    return feed(Check.word(text, at), Check.word(text, at + 4), Check.word(text, at + 8),
        Check.word(text, at + 12), Check.word(text, at + 16));
  }

  /** The tape has this text alone; it must have 1000 bytes at most. */
  void write(String text) {
    end(0);
    for (int at = 0; at < text.length(); at += 20) {
      feed(text, at);
    }
    end(text.length());
  }

  int round(String text) {
    write(text);
    return round();
  }

  /** An END of HITS: each number is an x, with y 0. */
  int shootAt(int a, int... xs) {
    for (int x : xs) {
      arrow(0, x, 0);
    }
    return shoot(a);
  }

  /** As many MISSED arrows as that, then the END. */
  int shootMissed(int a, int many) {
    for (int k = 0; k < many; k++) {
      arrow(1, 0, 0);
    }
    return shoot(a);
  }

  void archers(int... clubs) {
    for (int club : clubs) {
      archer(club);
    }
  }
}
