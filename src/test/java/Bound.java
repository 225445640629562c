/** The two sides of a boundary: the last call that is taken, and the first that is refused. */
final class Bound {
  static final int NONE = ArcheryField.NONE;
  static final int BIG = Integer.MAX_VALUE;
  static final int SMALL = Integer.MIN_VALUE;
  static final String RICH_TEXT = "face 600:1 500:3 400:5 300:7 200:9 100:10;face 50:6;leg 2 3 0;"
      + "leg 1 1 1;most 10;last;nearest;bounced 5;passed 7;shaft 3;";

  private Bound() {
  }

  interface Calls {
    void on(Played x);
  }

  interface Call {
    int on(Played x);
  }

  /** Something of everything, so that whatever a refused call spoils can be seen. */
  static void rich(Played x) {
    x.round(RICH_TEXT);
    x.archers(0, 1, 0, 7);
    x.shootAt(0, 103, 104, 604);
    x.shootAt(0, 0, 300, 400);
    x.shootAt(0, 50);
    x.shootAt(1, 0, 300, 400);
    x.shootAt(1, 103, 104, 604);
    x.shootAt(1, 53);
    x.shootAt(2, 1, 2, 3);
    x.off(0, 0, 3, 4);
    x.off(0, 1, 0, 0);
    x.off(1, 0, 5, 0);
    x.law(3, 2, 500);
    x.law(5, 1, 300);
    x.bay(2);
    x.bay(2);
    x.layout();
    x.today(50);
    x.score(0, 10, 600);
    x.score(0, 374, 500);
    x.score(1, 36500, 2000);
    x.today(60);
    x.lane(0, 1);
    x.strike(0, 0);
    x.lane(3, 2);
    x.arrow(0, 150, 0);
    x.arrow(4, 0, 0);
    x.feed("face 1:1;leg 2 1 0; ", 0);
  }

  static void nothing(Played x) {
  }

  /** The call's answer behind those calls is this one. */
  static Played taken(String why, Calls before, Call call, int want) {
    Played x = new Played();
    before.on(x);
    Check.due(why, call.on(x), want);
    return x;
  }

  /** The call answers this, and leaves all as it was. */
  static void refused(String why, Calls before, Call call, int want) {
    refused(why, before, call, want, Bound::nothing, 0);
  }

  /** The call answers this, and does no more than the calls that are told behind it. */
  static void refused(String why, Calls before, Call call, int want, Calls instead, int without) {
    for (int way = 0; way < Look.ways(without); way++) {
      Played tried = new Played();
      before.on(tried);
      Check.due(why, call.on(tried), want);
      Played other = new Played();
      before.on(other);
      instead.on(other);
      alike(why + " leaves all as it was", tried, other, way, without);
    }
  }

  /** Behind both runs everything is the same. */
  static void same(String why, Calls one, Calls other, int without) {
    for (int way = 0; way < Look.ways(without); way++) {
      Played x = new Played();
      one.on(x);
      Played y = new Played();
      other.on(y);
      alike(why, x, y, way, without);
    }
  }

  private static void alike(String why, Played one, Played other, int way, int without) {
    String[] got = Look.at(one, way, without).split("\n");
    String[] want = Look.at(other, way, without).split("\n");
    Check.due(why + ": lines seen in way " + way, got.length, want.length);
    for (int i = 0; i < got.length && i < want.length; i++) {
      if (!got[i].equals(want[i])) {
        Check.fail(why + ": way " + way + " sees '" + got[i] + "', due is '" + want[i] + "'");
        return;
      }
    }
  }
}
