/** Each promise of the document by itself: ordinary inputs, the edges, and wrong inputs. */
public final class PromisesTest {
  private static final int NONE = ArcheryField.NONE;
  private static final int BIG = Integer.MAX_VALUE;
  private static final int SMALL = Integer.MIN_VALUE;
  private static final String FACE = "face 600:1 500:3 400:5 300:7 200:9 100:10;";
  private static final String ROUND =
      FACE + "leg 2 3 0; most 10; last; nearest; bounced 5; passed 7; shaft 3;";

  private PromisesTest() {
  }

  public static void main(String[] args) {
    newObject();
    feed();
    end();
    round();
    roundForgets();
    textShapes();
    faultsOfSigns();
    faultsOfNumbers();
    faultsOfTooMany();
    firstFaultAlongTheText();
    fault();
    of();
    archer();
    leave();
    told();
    arrow();
    shootJudges();
    shootRefuses();
    shootIn();
    shootLegs();
    value();
    take();
    off();
    aheadByTotal();
    aheadByMost();
    aheadByLast();
    aheadByNearest();
    aheadByOrderOfTies();
    aheadRefuses();
    rank();
    today();
    score();
    strike();
    law();
    kindDays();
    kindKnown();
    kindLaws();
    bay();
    layoutParts();
    layoutGoesBack();
    layoutRefuses();
    layoutTries();
    on();
    lane();
    laneBays();
    state();
    undoEach();
    undoDepth();
    undoLeavesAlone();
    wildNumbers();
    Check.close("PromisesTest");
  }

  private static void due(String call, long got, long want) {
    Check.due(call, got, want);
  }

  private static void due(String call, boolean got, boolean want) {
    Check.due(call, got, want);
  }

  private static ArcheryField with(String text) {
    ArcheryField x = new ArcheryField();
    due("round of " + text, Check.round(x, text) > 0, true);
    return x;
  }

  /** round() of the text must answer NONE with that FAULT at that place. */
  private static void faulty(String text, int kind, int place) {
    ArcheryField x = new ArcheryField();
    due("round of '" + text + "'", Check.round(x, text), NONE);
    due("fault of '" + text + "'", x.fault(0), kind);
    due("its place in '" + text + "'", x.fault(1), place);
    due("of(0) behind '" + text + "'", x.of(0), NONE);
  }

  private static void good(String text, int ends) {
    ArcheryField x = new ArcheryField();
    due("round of '" + text + "'", Check.round(x, text), ends);
    due("fault of '" + text + "'", x.fault(0), 0);
    due("its place in '" + text + "'", x.fault(1), NONE);
  }

  /** An END of HITS in the middle line: each number is an x with y 0. */
  private static int shootAt(ArcheryField x, int a, int... xs) {
    for (int at : xs) {
      x.arrow(0, at, 0);
    }
    return x.shoot(a);
  }

  private static void newObject() {
    ArcheryField x = new ArcheryField();
    due("NONE", ArcheryField.NONE, -1);
    for (int what = -1; what <= 8; what++) {
      due("new: of", x.of(what), NONE);
      due("new: told", x.told(0, what), NONE);
    }
    due("new: fault(0)", x.fault(0), 0);
    due("new: fault(1)", x.fault(1), NONE);
    due("new: rank", x.rank(0), NONE);
    due("new: ahead", x.ahead(0, 0), -2);
    due("new: shoot", x.shoot(0), -1);
    due("new: take", x.take(0), NONE);
    due("new: off", x.off(0, 0, 0, 0), NONE);
    due("new: value", x.value(0, 0), NONE);
    due("new: state", x.state(0), NONE);
    due("new: lane", x.lane(0, 1), NONE);
    due("new: on", x.on(0), NONE);
    due("new: layout", x.layout(), NONE);
    due("new: kind", x.kind(0, 0, 0), NONE);
    due("new: strike", x.strike(0, 0), false);
    due("new: leave", x.leave(0), false);
    due("new: undo", x.undo(), NONE);
    due("new: end(1)", x.end(1), false);
    due("new: end(0)", x.end(0), true);
    due("new: today(0)", x.today(0), true);
    x.archer(0);
    due("new: no laws", x.kind(0, 0, 0), 0);
    due("new: first law", x.law(1, 1, 0), 1);
    due("new: first lanes", x.bay(1), 1);
  }

  private static void feed() {
    ArcheryField x = new ArcheryField();
    for (int many = 20; many <= 1000; many += 20) {
      due("feed", x.feed(0x20202020, 0x20202020, 0x20202020, 0x20202020, 0x20202020), many);
    }
    due("feed beyond 1000", x.feed(0, 0, 0, 0, 0), NONE);
    due("the tape is as it was", x.end(1000), true);
    due("feed at 1000", x.feed(0, 0, 0, 0, 0), NONE);
    due("end(981)", x.end(981), true);
    due("feed at 981", x.feed(0, 0, 0, 0, 0), NONE);
    due("no byte came", x.end(982), false);
    due("end(980)", x.end(980), true);
    due("feed at 980", x.feed(0x20202020, 0x20202020, 0x20202020, 0x20202020, 0x20202020), 1000);
    x.end(0);
    // "face" "1:1;" "leg " "1 1 " "0;  ": the highest byte first, in the order of the numbers
    due("bytes", x.feed(0x66616365, 0x313a313b, 0x6c656720, 0x31203120, 0x303b2020), 20);
    due("round of the bytes", x.round(), 1);
    due("negative numbers", x.feed(-1, -1, -1, -1, -1), 20);
    due("round of no signs", x.round(), NONE);
    due("fault of no signs", x.fault(0), 1);
    due("its place", x.fault(1), 0);
    due("a text is put together", x.feed(0x66616365, 0x313a313b, 0x6c656720, 0x31203120, 0x303b2020),
        20);
    x.end(14);
    Check.write(x, 14, "4 0;");
    due("end cut it", x.round(), 1);
    due("its arrows", x.of(2), 4);
  }

  private static void end() {
    ArcheryField x = new ArcheryField();
    x.feed(0, 0, 0, 0, 0);
    due("end(-1)", x.end(-1), false);
    due("end(SMALL)", x.end(SMALL), false);
    due("end(21)", x.end(21), false);
    due("end(BIG)", x.end(BIG), false);
    due("it did nothing", x.feed(0, 0, 0, 0, 0), 40);
    due("end(40)", x.end(40), true);
    due("end(7)", x.end(7), true);
    due("end(8)", x.end(8), false);
    due("feed behind 7", x.feed(0, 0, 0, 0, 0), 27);
    due("end(0)", x.end(0), true);
    due("end(1)", x.end(1), false);
    due("round of nothing", x.round(), NONE);
    due("its place", x.fault(1), 0);
  }

  private static void round() {
    ArcheryField x = with(ROUND);
    due("the tape goes", x.end(1), false);
    due("a fault", Check.round(x, "leg 1 1 0;"), NONE);
    due("the tape goes with a fault", x.end(1), false);
    due("the round before stays", x.of(1), 2);
    due("another", Check.round(x, "face 1:1; leg 12 6 0; leg 12 6 0; leg 12 1 0; leg 12 6 0;"), 48);
    due("ends in all", x.of(1), 48);
  }

  private static void roundForgets() {
    ArcheryField x = with("face 100:5; leg 1 1 0; nearest;");
    x.archer(0);
    x.archer(1);
    shootAt(x, 0, 0);
    shootAt(x, 1, 0);
    x.off(0, 0, 1, 1);
    x.score(0, 3, 4);
    due("total", x.told(0, 2), 5);
    Check.round(x, "face");
    due("a fault leaves the total", x.told(0, 2), 5);
    due("a fault leaves the shoot-off", x.told(0, 4), 1);
    due("the same again", Check.round(x, "face 100:5; leg 1 1 0; nearest;"), 1);
    due("total goes", x.told(0, 2), 0);
    due("ends go", x.told(0, 1), 0);
    due("values go", x.value(0, 0), NONE);
    due("of all archers", x.told(1, 1), 0);
    due("shoot-offs go", x.told(0, 4), 0);
    due("neither is ahead", x.ahead(0, 1), 0);
    due("scores stay", x.told(0, 5), 1);
    due("clubs stay", x.told(1, 0), 1);
  }

  private static void textShapes() {
    good("face 1:1;leg 1 1 0;", 1);
    good("face1:1;leg1 1 0;", 1);
    good("  \nface\n1 : 1\n;\n leg\n1\n1\n0\n;\n ", 1);
    good("face 000100:000001;leg 000002 01 000000;", 2);
    good("face 10000:1 9999:2 1:20;leg 12 6 0;", 12);
    good("face 12:1 11:2 10:3 9:4 8:5 7:6 6:7 5:8 4:9 3:10 2:11 1:12;leg 1 1 0;", 1);
    good("face 1:1;face 1:1;face 1:1;face 1:1;leg 1 1 3;leg 1 1 2;leg 1 1 1;leg 1 1 0;", 4);
    good("face 1:1;leg 1 1 0;most 0;most 20;last;last;most 0;nearest;", 1);
    good("shaft 100;passed 20;bounced 20;face 1:1;leg 1 1 0;", 1);
    good("shaft 0;passed 0;bounced 0;face 1:1;leg 1 1 0;", 1);
    good("face 1:1;leg 1 1 0;face 2:2;leg 1 1 1;", 2);
    good("face 1:1;leg 1 1 0;nearest;shaft 1;face 2:2;leg 3 1 1;", 4);
  }

  private static void faultsOfSigns() {
    faulty("", 1, 0);
    faulty("   ", 1, 3);
    faulty(";", 1, 0);
    faulty("face 1:1;leg 1 1 0;;", 1, 19);
    faulty("face 1:1;leg 1 1 0; ;", 1, 20);
    faulty("faces 1:1;", 1, 0);
    faulty("fac 1:1;", 1, 0);
    faulty("fac", 1, 0);
    faulty("Face 1:1;", 1, 0);
    faulty("\tface 1:1;", 1, 0);
    faulty("\rface 1:1;", 1, 0);
    faulty((char) 0 + "face 1:1;", 1, 0);
    faulty("faceface 1:1;", 1, 0);
    faulty("xace 1:1;", 1, 0);
    faulty("fbce 1:1;", 1, 0);
    faulty("lasu;", 1, 0);
    faulty("lastz;", 1, 0);
    faulty("lasta;", 1, 0);
    faulty("face;", 1, 4);
    faulty("face ;leg 1 1 0;", 1, 5);
    faulty("face face 1:1;", 1, 5);
    faulty("face\t1:1;", 1, 4);
    faulty("face -1:1;", 1, 5);
    faulty("face :1;", 1, 5);
    faulty("face 1;", 1, 6);
    faulty("face 1 1;", 1, 7);
    faulty("face 1::1;", 1, 7);
    faulty("face 1:;", 1, 7);
    faulty("face 2:1 1;", 1, 10);
    faulty("face 2:1,1:2;", 1, 8);
    faulty("face 1:1 leg 1 1 0;", 1, 9);
    faulty("face 1:1", 1, 8);
    faulty("face 1:1  \n", 1, 11);
    faulty("face", 1, 4);
    faulty("face 1", 1, 6);
    faulty("face 1:", 1, 7);
    faulty("face 1:1;", 1, 9);
    faulty("face 1:1;  ", 1, 11);
    faulty("most 1; last;", 1, 13);
    faulty("12 face 1:1;", 1, 0);
    faulty("1234567", 1, 0);
    faulty(": face 1:1;", 1, 0);
    faulty("face 1:1;leg;", 1, 12);
    faulty("face 1:1;leg 1;", 1, 14);
    faulty("face 1:1;leg 1 1;", 1, 16);
    faulty("face 1:1;leg 1 1 0 0;", 1, 19);
    faulty("face 1:1;leg 1 1 0:", 1, 18);
    faulty("face 1:1;leg 1 : 0;", 1, 15);
    faulty("face 1:1;leg 1 1 0", 1, 18);
    faulty("face 1:1;leg 1 1 0; last last;", 1, 25);
    faulty("last 1;", 1, 5);
    faulty("nearest 1;", 1, 8);
    faulty("most last;", 1, 5);
    faulty("most 1 1;", 1, 7);
    faulty("bounced;", 1, 7);
    faulty("passed 1:;", 1, 8);
    faulty("shaft", 1, 5);
    faulty("shaft x;", 1, 6);
    faulty("shaft 1234567;", 1, 12);
    faulty("shaft 0000001;", 1, 12);
    faulty("shaft 12345678;", 1, 12);
    faulty("face 1:1;leg 1 1 0000000;", 1, 23);
    faulty("face 0000010:1;", 1, 11);
    faulty("face 1:0000001;", 1, 13);
    faulty("face 1:1;leg 1 1 0;" + (char) 200, 1, 19);
    faulty("face 1:1;leg 1 1 0;/", 1, 19);
    faulty("face 1/1;", 1, 6);
    faulty("face 1:1<", 1, 8);
    faulty("`", 1, 0);
    faulty("{", 1, 0);
  }

  private static void faultsOfNumbers() {
    faulty("face 0:1;", 2, 5);
    faulty("face 10001:1;", 2, 5);
    faulty("face 999999:1;", 2, 5);
    faulty("face 1:0;", 2, 7);
    faulty("face 1:21;", 2, 7);
    faulty("face 5:1 5:2;", 2, 9);
    faulty("face 5:1 6:2;", 2, 9);
    faulty("face 5:1 0:2;", 2, 9);
    faulty("face 5:2 4:2;", 2, 11);
    faulty("face 5:2 4:1;", 2, 11);
    faulty("face 5:20 4:21;", 2, 12);
    faulty("face 1:1 1:2;", 2, 9);
    faulty("face 1:1;leg 0 1 0;", 2, 13);
    faulty("face 1:1;leg 13 1 0;", 2, 13);
    faulty("face 1:1;leg 1 0 0;", 2, 15);
    faulty("face 1:1;leg 1 7 0;", 2, 15);
    faulty("most 21;", 2, 5);
    faulty("bounced 21;", 2, 8);
    faulty("passed 21;", 2, 7);
    faulty("shaft 101;", 2, 6);
    faulty("shaft   000101;", 2, 8);
    faulty("face 1:1;leg 110;", 2, 13);
  }

  private static void faultsOfTooMany() {
    String four = "face 1:1;face 1:1;face 1:1;face 1:1;";
    faulty(four + "face 1:1;", 3, 36);
    faulty(four + " face;", 3, 37);
    faulty(four + "face", 3, 36);
    faulty("face 13:1 12:2 11:3 10:4 9:5 8:6 7:7 6:8 5:9 4:10 3:11 2:12  1:13;", 3, 61);
    faulty("face 13:1 12:2 11:3 10:4 9:5 8:6 7:7 6:8 5:9 4:10 3:11 2:12\n1", 3, 60);
    faulty("face 1:1;leg 1 1 0;leg 1 1 0;leg 1 1 0;leg 1 1 0;leg 1 1 0;", 3, 49);
    faulty("face 1:1;leg 1 1 0;leg 1 1 0;leg 1 1 0;leg 1 1 0;leg 13", 3, 49);
    faulty("leg 1 1 0;", 3, 8);
    faulty("face 1:1;leg 1 1 1;", 3, 17);
    faulty("face 1:1;leg 1 1 999999;", 3, 17);
    faulty("face 1:1;leg 1 1 1;face 1:1;", 3, 17);
    faulty("most 1;last;most 1;last;most 1;last;last;", 3, 36);
    faulty("most 1;last;most 1;last;most 1;last;nearest;", 3, 36);
    faulty("most 1;last;most 1;last;most 1;last;most 21;", 3, 36);
    faulty("nearest;last;", 3, 8);
    faulty("nearest;most 1;", 3, 8);
    faulty("nearest;nearest;", 3, 8);
    faulty("nearest; shaft 1; most x;", 3, 18);
    faulty("bounced 1;bounced 1;", 3, 10);
    faulty("bounced 0;bounced;", 3, 10);
    faulty("passed 1;passed 1;", 3, 9);
    faulty("shaft 0;bounced 1;passed 1;shaft 0;", 3, 27);
  }

  private static void firstFaultAlongTheText() {
    faulty("face 10001:21;", 2, 5);
    faulty("face 10001 x", 2, 5);
    faulty("face 5:21 4:22;", 2, 7);
    faulty("face 1:1;leg 13 1 0 0;", 2, 13);
    faulty("face 1:1;leg 1 7 x;", 2, 15);
    faulty("most 21 1;", 2, 5);
    faulty("shaft 101:", 2, 6);
    faulty("face x 10001:1;", 1, 5);
    faulty("leg 13 7 9;", 2, 4);
    faulty("leg 1 7 9;", 2, 6);
    faulty("leg 1 1 9;;", 3, 8);
    faulty("leg 1 1", 1, 7);
    faulty("nearest;last;x", 3, 8);
    faulty("x;nearest;last;", 1, 0);
    faulty("most 21;nearest;last;", 2, 5);
    faulty("shaft 1;shaft 101;", 3, 8);
  }

  private static void fault() {
    ArcheryField x = new ArcheryField();
    due("ahead of any", x.fault(0), 0);
    due("ahead of any, place", x.fault(1), NONE);
    Check.round(x, "face 0:1;");
    due("fault", x.fault(0), 2);
    due("place", x.fault(1), 5);
    due("fault(2)", x.fault(2), NONE);
    due("fault(-1)", x.fault(-1), NONE);
    due("fault(BIG)", x.fault(BIG), NONE);
    Check.round(x, ROUND);
    due("none of the latest", x.fault(0), 0);
    due("no place", x.fault(1), NONE);
    Check.round(x, "leg 1 1 0;");
    due("of the latest", x.fault(0), 3);
    due("its place", x.fault(1), 8);
  }

  private static void of() {
    ArcheryField x = with("face 2:1;face 2:2;face 1:1;leg 2 3 0;leg 12 6 2;most 1;last;"
        + "bounced 20;passed 19;shaft 100;");
    int[] want = {2, 14, 78, 3, 2, 20, 19, 100};
    for (int what = 0; what < want.length; what++) {
      due("of(" + what + ")", x.of(what), want[what]);
    }
    due("of(8)", x.of(8), NONE);
    due("of(-1)", x.of(-1), NONE);
    due("of(BIG)", x.of(BIG), NONE);
    due("of(SMALL)", x.of(SMALL), NONE);
    ArcheryField y = with("face 2:1;leg 1 1 0;");
    for (int what = 4; what < 8; what++) {
      due("not told: of(" + what + ")", y.of(what), 0);
    }
  }

  private static void archer() {
    ArcheryField x = new ArcheryField();
    due("archer(-1)", x.archer(-1), NONE);
    due("archer(8)", x.archer(8), NONE);
    due("archer(BIG)", x.archer(BIG), NONE);
    due("archer(SMALL)", x.archer(SMALL), NONE);
    for (int a = 0; a < 16; a++) {
      due("archer", x.archer(a % 8), a);
    }
    due("a 17th", x.archer(0), NONE);
    for (int a = 0; a < 16; a++) {
      due("club", x.told(a, 0), a % 8);
    }
    x.leave(9);
    x.leave(4);
    x.leave(11);
    due("the least free", x.archer(7), 4);
    due("the next free", x.archer(6), 9);
    due("the last free", x.archer(5), 11);
    due("full again", x.archer(5), NONE);
    due("the new club", x.told(4, 0), 7);
  }

  private static void leave() {
    ArcheryField x = with("face 100:5;leg 2 1 0;nearest;");
    x.bay(2);
    x.archer(0);
    x.archer(1);
    x.layout();
    shootAt(x, 0, 1);
    shootAt(x, 0, 1);
    x.off(0, 0, 0, 0);
    x.score(0, 1, 1);
    due("leave(-1)", x.leave(-1), false);
    due("leave(2)", x.leave(2), false);
    due("leave(16)", x.leave(16), false);
    due("leave(BIG)", x.leave(BIG), false);
    due("leave(SMALL)", x.leave(SMALL), false);
    due("leave", x.leave(0), true);
    due("leave again", x.leave(0), false);
    due("not on the line", x.on(0), NONE);
    due("the other is", x.on(1), 1);
    due("nothing told", x.told(0, 0), NONE);
    due("the other's rank", x.rank(1), 1);
    due("another comes", x.archer(4), 0);
    for (int what = 1; what <= 5; what++) {
      due("without what was there: told " + what, x.told(0, what), 0);
    }
    due("without their place", x.told(0, 6), NONE);
    due("without their values", x.value(0, 0), NONE);
    due("no place for them", x.on(0), NONE);
  }

  private static void told() {
    ArcheryField x = new ArcheryField();
    x.archer(5);
    for (int what = 1; what <= 5; what++) {
      due("without a round: told " + what, x.told(0, what), 0);
    }
    due("without a layout", x.told(0, 6), NONE);
    Check.round(x, ROUND);
    x.bay(1);
    x.archer(5);
    x.leave(1);
    x.archer(2);
    x.layout();
    shootAt(x, 1, 0, 0, 150);
    shootAt(x, 1, 250, 0, 700);
    x.off(1, 0, 0, 0);
    x.off(1, 1, 0, 0);
    x.off(1, 0, 9, 0);
    x.score(1, 1, 1);
    x.score(1, 2, 1);
    x.strike(1, 0);
    int[] want = {2, 2, 46, 17, 3, 2, 1};
    for (int what = 0; what < want.length; what++) {
      due("told " + what, x.told(1, what), want[what]);
    }
    due("told 7", x.told(1, 7), NONE);
    due("told -1", x.told(1, -1), NONE);
    due("told BIG", x.told(1, BIG), NONE);
    due("of none", x.told(2, 0), NONE);
    due("of -1", x.told(-1, 0), NONE);
    due("of 16", x.told(16, 0), NONE);
  }

  private static void arrow() {
    ArcheryField x = new ArcheryField();
    due("kind -1", x.arrow(-1, 0, 0), NONE);
    due("kind 5", x.arrow(5, 0, 0), NONE);
    due("kind BIG", x.arrow(BIG, 0, 0), NONE);
    due("hit x", x.arrow(0, 20001, 0), NONE);
    due("hit -x", x.arrow(0, -20001, 0), NONE);
    due("hit y", x.arrow(0, 0, 20001), NONE);
    due("hit -y", x.arrow(0, 0, -20001), NONE);
    due("hit SMALL", x.arrow(0, SMALL, SMALL), NONE);
    due("in -1", x.arrow(4, -1, 0), NONE);
    due("in 6", x.arrow(4, 6, 0), NONE);
    due("hit at the edge", x.arrow(0, 20000, -20000), 1);
    due("hit at the other edge", x.arrow(0, -20000, 20000), 2);
    due("missed anywhere", x.arrow(1, BIG, SMALL), 3);
    due("bounced anywhere", x.arrow(2, BIG, SMALL), 4);
    due("passed anywhere", x.arrow(3, SMALL, BIG), 5);
    due("in 5 may be told", x.arrow(4, 5, BIG), 6);
    due("a 7th", x.arrow(1, 0, 0), NONE);
    x.shoot(0);
    due("they went", x.arrow(4, 0, SMALL), 1);
  }

  private static void shootJudges() {
    ArcheryField x = with("face 100:5 50:6 49:9;leg 12 1 0;bounced 3;passed 4;");
    x.archer(0);
    due("on the middle", shootAt(x, 0, 0), 9);
    due("on the line", shootAt(x, 0, 49), 9);
    due("behind the line", shootAt(x, 0, 50), 6);
    due("behind that", shootAt(x, 0, -51), 5);
    due("on the last line", shootAt(x, 0, -100), 5);
    due("beyond all", shootAt(x, 0, 101), 0);
    x.arrow(0, 60, 80);
    due("60, 80 is 100", x.shoot(0), 5);
    x.arrow(0, 61, -80);
    due("61, 80 is more", x.shoot(0), 0);
    x.arrow(0, -20000, 20000);
    due("at the corner", x.shoot(0), 0);
    x.arrow(1, 0, 0);
    due("missed", x.shoot(0), 0);
    x.arrow(2, 0, 0);
    due("bounced", x.shoot(0), 3);
    x.arrow(3, 0, 0);
    due("passed", x.shoot(0), 4);
    ArcheryField y = with("face 10000:20;leg 9 1 0;shaft 100;");
    y.archer(0);
    due("radius and shaft", shootAt(y, 0, 10100), 20);
    due("a tenth beyond", shootAt(y, 0, 10101), 0);
    y.arrow(0, 7141, 7142);
    due("just within: 101999045", y.shoot(0), 20);
    y.arrow(0, 7142, 7142);
    due("just beyond: 102016328", y.shoot(0), 0);
    y.arrow(2, 0, 0);
    due("bounced was not told", y.shoot(0), 0);
    y.arrow(3, 0, 0);
    due("passed was not told", y.shoot(0), 0);
  }

  private static void shootRefuses() {
    ArcheryField x = new ArcheryField();
    x.archer(0);
    due("no round", shootAt(x, 0, 1), -1);
    due("the arrows went", x.arrow(1, 0, 0), 1);
    Check.round(x, "face 100:5;leg 1 2 0;");
    due("round() leaves the arrows", x.arrow(0, 0, 0), 2);
    due("no such archer", x.shoot(1), -1);
    due("the arrows went with it", x.shoot(0), -2);
    due("archer -1", shootAt(x, -1, 1), -1);
    due("archer 16", shootAt(x, 16, 1), -1);
    due("too few", shootAt(x, 0, 1), -2);
    due("too many", shootAt(x, 0, 1, 1, 1), -2);
    due("too many went", x.arrow(1, 0, 0), 1);
    due("too few with a bad one", x.shoot(0), -2);
    x.arrow(4, 1, 0);
    x.arrow(0, 0, 0);
    due("in itself or behind", x.shoot(0), -3);
    due("nothing was shot", x.told(0, 1), 0);
    due("no value", x.value(0, 0), NONE);
    due("just enough", shootAt(x, 0, 1, 101), 5);
    due("all ends are shot", shootAt(x, 0, 1, 1), -1);
    due("all ends, and too few", shootAt(x, 0, 1), -1);
    x.arrow(4, 3, 0);
    x.arrow(4, 3, 0);
    due("all ends, and a bad one", x.shoot(0), -1);
    due("the total is as it was", x.told(0, 2), 5);
  }

  private static void shootIn() {
    ArcheryField x = with("face 100:5 50:7;leg 12 3 0;bounced 3;passed 4;");
    x.archer(0);
    due("in a hit", shootIns(x, 0, 10, 4, 0, 4, 0), 21);
    due("in one that is in one", shootIns(x, 0, 60, 4, 0, 4, 1), 15);
    due("in a bounced one", shootIns(x, 2, 0, 4, 0, 1, 0), 6);
    due("in a passed one", shootIns(x, 1, 0, 3, 0, 4, 1), 8);
    due("in a hit that counts nothing", shootIns(x, 0, 500, 4, 0, 0, 0), 7);
    due("its values", x.value(0, 13), 0);
    due("ends shot", x.told(0, 1), 5);
    due("in a missed one", shootIns(x, 1, 0, 4, 0, 0, 0), -3);
    due("in a missed one, the last", shootIns(x, 0, 0, 1, 0, 4, 1), -3);
    due("in itself", shootIns(x, 4, 0, 0, 0, 0, 0), -3);
    due("in itself, the last", shootIns(x, 0, 0, 0, 0, 4, 2), -3);
    due("in one behind it", shootIns(x, 0, 0, 4, 2, 0, 0), -3);
    due("in one that is not there", shootIns(x, 0, 0, 0, 0, 4, 5), -3);
    due("refused whole", x.told(0, 1), 5);
    due("no value of it", x.value(0, 15), NONE);
    due("total", x.told(0, 2), 57);
  }

  /** An END of three ARROWS, each told by its kind and x. */
  private static int shootIns(ArcheryField x, int... told) {
    for (int i = 0; i < told.length; i += 2) {
      x.arrow(told[i], told[i + 1], 0);
    }
    return x.shoot(0);
  }

  private static void shootLegs() {
    ArcheryField x = with("face 100:5;face 10:9;leg 2 1 1;leg 1 6 0;leg 1 2 1;");
    x.archer(0);
    x.archer(0);
    due("leg 0, end 0", shootAt(x, 0, 11), 0);
    due("leg 0, end 1", shootAt(x, 0, 10), 9);
    due("leg 1 wants 6", shootAt(x, 0, 10), -2);
    due("leg 1", shootAt(x, 0, 1, 2, 3, 4, 5, 101), 25);
    due("leg 2 wants 2", shootAt(x, 0, 10), -2);
    due("leg 2", shootAt(x, 0, 10, 20), 9);
    due("behind all", shootAt(x, 0, 10, 20), -1);
    due("the other one begins", shootAt(x, 1, 10), 9);
    due("ends", x.told(0, 1), 4);
    due("total", x.told(0, 2), 43);
    due("last", x.told(0, 3), 9);
    due("back into leg 1", x.take(0), 3);
    due("last of leg 1", x.told(0, 3), 25);
    due("back into leg 0", x.take(0), 2);
    due("its arrows", x.value(0, 1), 9);
    due("no more arrows", x.value(0, 2), NONE);
  }

  private static void value() {
    ArcheryField x = with(ROUND);
    x.archer(0);
    shootAt(x, 0, 0, 150, 250);
    shootAt(x, 0, 350, 450, 550);
    int[] want = {10, 9, 7, 5, 3, 1};
    for (int k = 0; k < want.length; k++) {
      due("value " + k, x.value(0, k), want[k]);
    }
    due("value 6", x.value(0, 6), NONE);
    due("value -1", x.value(0, -1), NONE);
    due("value BIG", x.value(0, BIG), NONE);
    due("value SMALL", x.value(0, SMALL), NONE);
    due("of none", x.value(1, 0), NONE);
    due("of -1", x.value(-1, 0), NONE);
    due("of 16", x.value(16, 0), NONE);
  }

  private static void take() {
    ArcheryField x = with(ROUND);
    x.archer(0);
    due("none shot", x.take(0), NONE);
    shootAt(x, 0, 0, 150, 250);
    shootAt(x, 0, 350, 450, 550);
    x.off(0, 0, 1, 1);
    due("take", x.take(0), 1);
    due("shoot-off stays", x.told(0, 4), 1);
    due("no shoot-off now", x.off(0, 0, 1, 1), NONE);
    due("total", x.told(0, 2), 26);
    due("last", x.told(0, 3), 26);
    due("no value 3", x.value(0, 3), NONE);
    due("value 2", x.value(0, 2), 7);
    due("shoot it anew", shootAt(x, 0, 0, 0, 0), 30);
    due("value 3", x.value(0, 3), 10);
    due("shoot-off again", x.off(0, 0, 1, 1), 2);
    due("take 1", x.take(0), 1);
    due("take 2", x.take(0), 0);
    due("last of none", x.told(0, 3), 0);
    due("take 3", x.take(0), NONE);
    due("of none", x.take(1), NONE);
    due("of -1", x.take(-1), NONE);
    due("of 16", x.take(16), NONE);
  }

  private static void off() {
    ArcheryField x = new ArcheryField();
    x.archer(0);
    due("no round", x.off(0, 0, 0, 0), NONE);
    Check.round(x, "face 1:1;leg 2 1 0;");
    due("none shot", x.off(0, 1, 0, 0), NONE);
    shootAt(x, 0, 0);
    due("one shot", x.off(0, 1, 0, 0), NONE);
    shootAt(x, 0, 0);
    due("kind 2", x.off(0, 2, 0, 0), NONE);
    due("kind 4", x.off(0, 4, 0, 0), NONE);
    due("kind -1", x.off(0, -1, 0, 0), NONE);
    due("x", x.off(0, 0, 20001, 0), NONE);
    due("-x", x.off(0, 0, -20001, 0), NONE);
    due("y", x.off(0, 0, 0, 20001), NONE);
    due("-y", x.off(0, 0, 0, SMALL), NONE);
    due("of none", x.off(1, 0, 0, 0), NONE);
    due("of -1", x.off(-1, 0, 0, 0), NONE);
    due("of 16", x.off(16, 0, 0, 0), NONE);
    due("none was told", x.told(0, 4), 0);
    due("hit", x.off(0, 0, 20000, -20000), 1);
    due("missed anywhere", x.off(0, 1, BIG, SMALL), 2);
    for (int k = 3; k <= 8; k++) {
      due("off", x.off(0, 0, 0, 0), k);
    }
    due("a 9th", x.off(0, 0, 0, 0), NONE);
    due("eight", x.told(0, 4), 8);
    due("the total is as it was", x.told(0, 2), 2);
  }

  private static ArcheryField pair(String text) {
    ArcheryField x = with(text);
    x.archer(0);
    x.archer(0);
    return x;
  }

  private static void order(ArcheryField x, String why, int want) {
    due(why, x.ahead(0, 1), want);
    due(why + ", turned", x.ahead(1, 0), -want);
    due(why + ", rank 0", x.rank(0), want < 0 ? 2 : 1);
    due(why + ", rank 1", x.rank(1), want > 0 ? 2 : 1);
  }

  private static void aheadByTotal() {
    ArcheryField x = pair(FACE + "leg 2 1 0;most 10;last;");
    order(x, "nothing shot", 0);
    shootAt(x, 0, 550);
    order(x, "one end more", 1);
    shootAt(x, 1, 550);
    order(x, "the same", 0);
    shootAt(x, 1, 550);
    order(x, "a total of more", -1);
    shootAt(x, 0, 250);
    order(x, "total ahead of the ties", 1);
    ArcheryField y = pair(FACE + "leg 1 2 0;");
    shootAt(y, 0, 0, 450);
    shootAt(y, 1, 250, 250);
    order(y, "13 and 14", -1);
    due("ahead of oneself", y.ahead(1, 1), 0);
    y.off(0, 0, 0, 0);
    order(y, "shoot-offs don't matter", -1);
  }

  private static void aheadByMost() {
    ArcheryField x = pair("face 30:1 20:2 10:3;leg 1 3 0;most 3;");
    shootAt(x, 0, 0, 0, 40);
    shootAt(x, 1, 15, 15, 15);
    order(x, "two threes", 1);
    ArcheryField y = pair("face 30:1 20:2 10:3;leg 1 3 0;most 2;");
    shootAt(y, 0, 0, 0, 40);
    shootAt(y, 1, 15, 15, 15);
    order(y, "three twos", -1);
    ArcheryField z = pair("face 30:1 20:2 10:3;leg 1 3 0;most 0;");
    shootAt(z, 0, 0, 0, 40);
    shootAt(z, 1, 15, 15, 15);
    order(z, "a nought", 1);
    ArcheryField v = pair("face 30:1 20:2 10:3;leg 1 3 0;most 1;nearest;");
    shootAt(v, 0, 0, 0, 40);
    shootAt(v, 1, 15, 15, 15);
    order(v, "no ones", 0);
    ArcheryField w = pair("face 30:1 20:2 10:3;leg 1 3 0;most 3;bounced 3;");
    w.arrow(2, 0, 0);
    w.arrow(4, 0, 0);
    w.arrow(1, 0, 0);
    w.shoot(0);
    shootAt(w, 1, 0, 15, 25);
    order(w, "bounced and in count as their value", 1);
  }

  private static void aheadByLast() {
    ArcheryField x = pair("face 30:1 20:2 10:3;leg 3 1 0;last;");
    shootAt(x, 0, 0);
    shootAt(x, 0, 25);
    shootAt(x, 1, 25);
    shootAt(x, 1, 0);
    order(x, "the last end shot", -1);
    shootAt(x, 0, 40);
    order(x, "a last end of nought", -1);
    shootAt(x, 1, 40);
    order(x, "both of nought", 0);
    ArcheryField y = pair("face 30:1;leg 3 1 0;last;");
    shootAt(y, 0, 40);
    order(y, "nought, and none shot", 0);
    ArcheryField z = pair("face 30:1 20:2;leg 3 1 0;last;");
    shootAt(z, 0, 25);
    shootAt(z, 0, 25);
    shootAt(z, 1, 15);
    order(z, "the last one shot, not the same end", -1);
  }

  private static void aheadByNearest() {
    ArcheryField x = pair("face 30:1;leg 1 1 0;nearest;");
    shootAt(x, 0, 0);
    shootAt(x, 1, 0);
    order(x, "no shoot-off", 0);
    x.off(0, 1, 0, 0);
    order(x, "missed, and not shot", 0);
    x.off(1, 0, 20000, 20000);
    order(x, "missed, and far", -1);
    x.off(0, 0, 0, 0);
    order(x, "the first number decides", -1);
    ArcheryField y = pair("face 30:1;leg 1 1 0;nearest;");
    shootAt(y, 0, 0);
    shootAt(y, 1, 0);
    y.off(0, 0, 3, 4);
    y.off(1, 0, 0, 5);
    order(y, "like squares", 0);
    y.off(1, 0, 20000, 20000);
    order(y, "far, and not shot", -1);
    y.off(0, 0, 19999, 20000);
    order(y, "a little nearer", 1);
    y.take(0);
    order(y, "total first", -1);
    ArcheryField z = pair("face 30:1;leg 1 1 0;nearest;");
    shootAt(z, 0, 0);
    shootAt(z, 1, 0);
    for (int k = 0; k < 7; k++) {
      z.off(0, k % 2, 7, 7);
      z.off(1, k % 2, -7, 7);
    }
    order(z, "seven alike", 0);
    z.off(1, 0, 1, 1);
    order(z, "the eighth", -1);
    z.off(0, 0, 0, 1);
    order(z, "the eighth of both", 1);
    ArcheryField v = pair("face 30:1;leg 1 1 0;last;");
    shootAt(v, 0, 0);
    shootAt(v, 1, 0);
    v.off(0, 0, 1, 1);
    order(v, "the text has no nearest", 0);
  }

  private static void aheadByOrderOfTies() {
    String legs = "face 30:1 20:2 10:3;leg 2 2 0;";
    String[] ties = {"most 3;last;", "last;most 3;", "most 9;last;", "most 9;most 3;last;"};
    int[] want = {1, -1, -1, 1};
    for (int i = 0; i < ties.length; i++) {
      ArcheryField x = pair(legs + ties[i]);
      shootAt(x, 0, 0, 25);
      shootAt(x, 0, 0, 40);
      shootAt(x, 1, 0, 40);
      shootAt(x, 1, 15, 15);
      order(x, ties[i], want[i]);
    }
    ArcheryField y = pair(legs + "most 3;last;nearest;");
    shootAt(y, 0, 0, 25);
    shootAt(y, 0, 0, 40);
    shootAt(y, 1, 0, 40);
    shootAt(y, 1, 15, 15);
    y.off(1, 0, 0, 0);
    order(y, "nearest is last", 1);
  }

  private static void aheadRefuses() {
    ArcheryField x = new ArcheryField();
    x.archer(0);
    x.archer(0);
    due("no round", x.ahead(0, 1), -2);
    Check.round(x, ROUND);
    due("a round", x.ahead(0, 1), 0);
    due("no second", x.ahead(0, 2), -2);
    due("no first", x.ahead(2, 0), -2);
    due("-1", x.ahead(0, -1), -2);
    due("16", x.ahead(16, 0), -2);
    due("BIG", x.ahead(BIG, SMALL), -2);
  }

  private static void rank() {
    ArcheryField x = new ArcheryField();
    for (int a = 0; a < 5; a++) {
      x.archer(a);
    }
    due("no round", x.rank(0), NONE);
    Check.round(x, "face 50:1 40:2 30:3 20:4 10:5;leg 1 1 0;");
    int[] at = {15, 5, 15, 45, 5};
    for (int a = 0; a < 5; a++) {
      due("nothing shot", x.rank(a), 1);
    }
    for (int a = 0; a < 5; a++) {
      shootAt(x, a, at[a]);
    }
    int[] want = {3, 1, 3, 5, 1};
    for (int a = 0; a < 5; a++) {
      due("rank " + a, x.rank(a), want[a]);
    }
    x.leave(1);
    due("one of them left", x.rank(0), 2);
    due("no such", x.rank(1), NONE);
    due("-1", x.rank(-1), NONE);
    due("16", x.rank(16), NONE);
    for (int a = 0; a < 12; a++) {
      x.archer(0);
    }
    x.take(4);
    shootAt(x, 15, 5);
    due("the last number counts", x.rank(0), 2);
  }

  private static void today() {
    ArcheryField x = new ArcheryField();
    due("-1", x.today(-1), false);
    due("36501", x.today(36501), false);
    due("BIG", x.today(BIG), false);
    due("SMALL", x.today(SMALL), false);
    due("0", x.today(0), true);
    due("5", x.today(5), true);
    due("5 again", x.today(5), true);
    due("4", x.today(4), false);
    due("36500", x.today(36500), true);
    due("36499", x.today(36499), false);
  }

  private static void score() {
    ArcheryField x = new ArcheryField();
    due("no archer", x.score(0, 0, 0), NONE);
    x.archer(0);
    x.archer(0);
    due("day -1", x.score(0, -1, 0), NONE);
    due("day 36501", x.score(0, 36501, 0), NONE);
    due("score -1", x.score(0, 0, -1), NONE);
    due("score 2001", x.score(0, 0, 2001), NONE);
    due("archer -1", x.score(-1, 0, 0), NONE);
    due("archer 16", x.score(16, 0, 0), NONE);
    due("none came", x.told(0, 5), 0);
    due("edges", x.score(0, 0, 0), 0);
    due("other edges", x.score(0, 36500, 2000), 1);
    for (int k = 2; k < 30; k++) {
      due("score", x.score(0, 1, 1), k);
    }
    due("a 31st", x.score(0, 1, 1), NONE);
    due("thirty", x.told(0, 5), 30);
    due("of another", x.score(1, 1, 1), 0);
    x.strike(0, 3);
    due("struck ones stay counted", x.score(0, 1, 1), NONE);
  }

  private static void strike() {
    ArcheryField x = new ArcheryField();
    x.archer(0);
    due("none", x.strike(0, 0), false);
    x.score(0, 1, 1);
    x.score(0, 1, 1);
    due("-1", x.strike(0, -1), false);
    due("2", x.strike(0, 2), false);
    due("BIG", x.strike(0, BIG), false);
    due("SMALL", x.strike(0, SMALL), false);
    due("no archer", x.strike(1, 0), false);
    due("archer -1", x.strike(-1, 0), false);
    due("archer 16", x.strike(16, 0), false);
    due("1", x.strike(0, 1), true);
    due("1 again", x.strike(0, 1), false);
    x.today(9);
    due("1 on another day", x.strike(0, 1), false);
    due("0", x.strike(0, 0), true);
  }

  private static void law() {
    ArcheryField x = new ArcheryField();
    due("class 0", x.law(0, 1, 1), NONE);
    due("class 10", x.law(10, 1, 1), NONE);
    due("class SMALL", x.law(SMALL, 1, 1), NONE);
    due("many 0", x.law(1, 0, 1), NONE);
    due("many 6", x.law(1, 6, 1), NONE);
    due("score -1", x.law(1, 1, -1), NONE);
    due("score 2001", x.law(1, 1, 2001), NONE);
    due("edges", x.law(1, 1, 0), 1);
    due("other edges", x.law(9, 5, 2000), 2);
    for (int k = 3; k <= 6; k++) {
      due("law", x.law(1, 1, 0), k);
    }
    due("a 7th", x.law(1, 1, 0), NONE);
  }

  private static void kindDays() {
    ArcheryField x = new ArcheryField();
    x.archer(0);
    x.law(4, 1, 500);
    x.score(0, 1000, 500);
    x.score(0, 1001, 499);
    due("the day before", x.kind(0, 999, 0), 0);
    due("the day", x.kind(0, 1000, 0), 4);
    due("the 365th day", x.kind(0, 1364, 0), 4);
    due("the 366th day", x.kind(0, 1365, 0), 0);
    due("day -1", x.kind(0, -1, 0), NONE);
    due("day 36501", x.kind(0, 36501, 0), NONE);
    due("known -1", x.kind(0, 1000, -1), NONE);
    due("known 36501", x.kind(0, 1000, 36501), NONE);
    due("day SMALL", x.kind(0, SMALL, 0), NONE);
    due("known BIG", x.kind(0, 1000, BIG), NONE);
    due("no archer", x.kind(1, 1000, 0), NONE);
    due("archer -1", x.kind(-1, 1000, 0), NONE);
    due("archer 16", x.kind(16, 1000, 0), NONE);
    x.score(0, 0, 600);
    due("day 0", x.kind(0, 0, 0), 4);
    due("day 364", x.kind(0, 364, 0), 4);
    due("day 365", x.kind(0, 365, 0), 0);
    x.score(0, 36500, 600);
    due("day 36500", x.kind(0, 36500, 36500), 4);
  }

  private static void kindKnown() {
    ArcheryField x = new ArcheryField();
    x.archer(0);
    x.law(2, 1, 100);
    x.today(50);
    x.score(0, 10, 100);
    due("not known yet", x.kind(0, 10, 49), 0);
    due("known", x.kind(0, 10, 50), 2);
    x.today(60);
    x.strike(0, 0);
    due("not struck yet", x.kind(0, 10, 59), 2);
    due("struck", x.kind(0, 10, 60), 0);
    due("struck for good", x.kind(0, 10, 36500), 0);
    due("not known then", x.kind(0, 10, 49), 0);
    x.score(0, 10, 100);
    x.strike(0, 1);
    due("told and struck on a day", x.kind(0, 10, 60), 0);
    x.score(0, 300, 100);
    due("a day to come is known", x.kind(0, 300, 60), 2);
  }

  private static void kindLaws() {
    ArcheryField x = new ArcheryField();
    x.archer(0);
    x.archer(0);
    x.score(0, 1, 700);
    due("no law", x.kind(0, 1, 0), 0);
    x.law(9, 3, 500);
    x.law(1, 2, 600);
    x.law(5, 1, 0);
    due("the third law", x.kind(0, 1, 0), 5);
    x.score(0, 2, 599);
    due("599 is not 600", x.kind(0, 2, 0), 5);
    x.score(0, 2, 600);
    due("the first law", x.kind(0, 2, 0), 9);
    x.strike(0, 1);
    due("the second law", x.kind(0, 2, 0), 1);
    due("no scores", x.kind(1, 2, 0), 0);
    due("on day 1", x.kind(0, 1, 0), 5);
    x.law(7, 1, 0);
    due("the first that fits", x.kind(0, 1, 0), 5);
  }

  private static void bay() {
    ArcheryField x = new ArcheryField();
    due("0", x.bay(0), NONE);
    due("-1", x.bay(-1), NONE);
    due("5", x.bay(5), NONE);
    due("BIG", x.bay(BIG), NONE);
    due("SMALL", x.bay(SMALL), NONE);
    due("4", x.bay(4), 4);
    x.lane(0, 2);
    x.archer(0);
    x.layout();
    due("on", x.on(0), 0);
    due("refused", x.bay(5), NONE);
    due("the layout stays", x.on(0), 0);
    due("3 more", x.bay(3), 7);
    due("the layout goes", x.on(0), NONE);
    due("of the archer too", x.told(0, 6), NONE);
    due("the other lanes stay", x.state(0), 2);
    due("these are waiting", x.state(4), 0);
    due("2 more would be 9", x.bay(2), NONE);
    due("1 more", x.bay(1), 8);
    due("none more", x.bay(1), NONE);
    ArcheryField y = new ArcheryField();
    for (int lanes = 1; lanes <= 8; lanes++) {
      due("bays of one", y.bay(1), lanes);
    }
    due("a ninth", y.bay(1), NONE);
    ArcheryField z = new ArcheryField();
    due("4", z.bay(4), 4);
    due("8", z.bay(4), 8);
  }

  private static ArcheryField clubs(int lanes, int... clubs) {
    ArcheryField x = new ArcheryField();
    for (int left = lanes; left > 0; left -= 3) {
      x.bay(Math.min(3, left));
    }
    for (int club : clubs) {
      x.archer(club);
    }
    return x;
  }

  private static void places(String why, ArcheryField x, int... want) {
    due(why, x.layout(), want.length);
    for (int a = 0; a < want.length; a++) {
      due(why + ": archer " + a, x.told(a, 6), want[a]);
      due(why + ": place " + want[a], x.on(want[a]), a);
    }
  }

  private static void layoutParts() {
    places("unlike clubs", clubs(2, 0, 1, 2, 3), 0, 1, 2, 3);
    places("not on one lane", clubs(2, 4, 4), 0, 3);
    places("not side by side", clubs(3, 1, 1, 1), 0, 3, 4);
    places("side by side across bays", clubs(6, 1, 1, 1, 1), 0, 3, 4, 7);
    places("place B too", clubs(3, 0, 1, 2, 1, 1), 0, 1, 3, 2, 5);
  }

  private static void layoutGoesBack() {
    places("the third has to move", clubs(2, 0, 1, 1, 0), 0, 1, 2, 3);
    places("back to the one before", clubs(2, 0, 1, 2, 1), 0, 1, 3, 2);
    due("back to the first, and beyond", clubs(2, 0, 1, 0, 0).layout(), NONE);
    due("four of a club on three lanes", clubs(3, 7, 7, 7, 7).layout(), NONE);
    ArcheryField x = clubs(2, 0, 5, 1, 1, 0);
    x.leave(1);
    due("a number is free", x.layout(), 4);
    due("the archer of the number behind", x.on(3), 4);
    due("no archer of that number", x.told(1, 6), NONE);
  }

  private static void layoutRefuses() {
    ArcheryField x = new ArcheryField();
    due("no lanes", x.layout(), NONE);
    x.archer(0);
    due("no lanes, one archer", x.layout(), NONE);
    x.bay(1);
    due("one", x.layout(), 1);
    x.archer(0);
    due("two of a club on one lane", x.layout(), NONE);
    due("the one before stays", x.on(0), 0);
    due("the second has no place", x.told(1, 6), NONE);
    x.leave(1);
    x.archer(1);
    due("two", x.layout(), 2);
    x.archer(2);
    due("three on two places", x.layout(), NONE);
    due("it stays", x.on(1), 1);
    x.leave(0);
    x.leave(1);
    x.leave(2);
    due("nobody", x.layout(), 0);
    due("nobody on", x.on(0), NONE);
    due("a layout of nobody can be undone", x.undo(), 3);
    due("by itself", x.told(2, 0), NONE);
    due("then the last one who left", x.undo(), 2);
    due("is there", x.told(2, 0), 2);
  }

  private static void layoutTries() {
    places("every second place", clubs(8, 0, 0, 0, 0, 0, 0, 0, 0), 0, 3, 4, 7, 8, 11, 12, 15);
    places("the 20000th TRY is the last one needed",
        clubs(7, 3, 2, 4, 5, 2, 0, 0, 3, 3, 1, 3, 3, 3, 5),
        0, 1, 2, 3, 4, 7, 8, 5, 6, 11, 9, 10, 13, 12);
    due("the 20001st TRY would be", clubs(7, 1, 3, 1, 2, 1, 3, 3, 0, 0, 2, 0, 0, 0, 1).layout(), -2);
    due("the 20001st TRY would be, on eight",
        clubs(8, 5, 0, 4, 3, 2, 5, 1, 2, 2, 3, 3, 4, 3, 3, 3).layout(), -2);
    ArcheryField y = clubs(4, 0, 1, 2, 3, 4, 5, 6, 7);
    places("eight on eight", y, 0, 1, 2, 3, 4, 5, 6, 7);
    y.archer(0);
    due("nine on eight are looked for all the same", y.layout(), -2);
    due("the one before stays", y.on(7), 7);
    due("a ninth place of none", y.told(8, 6), NONE);
    due("and is no change", y.undo(), 3);
    due("all places of the first are looked at, also with those behind it on (0 A)",
        clubs(4, 6, 5, 5, 6, 0, 3, 5, 4, 0, 3, 6).layout(), -2);
    ArcheryField z = clubs(3, 0, 1, 2, 3, 4, 5);
    places("unlike clubs", z, 0, 1, 2, 3, 4, 5);
    z.archer(6);
    due("seven on six places, few enough tries", z.layout(), NONE);
    due("the one before stays there", z.on(5), 5);
  }

  private static void on() {
    ArcheryField x = clubs(2, 3, 3);
    due("no layout", x.on(0), NONE);
    x.layout();
    due("0", x.on(0), 0);
    due("1", x.on(1), NONE);
    due("3", x.on(3), 1);
    due("4", x.on(4), NONE);
    due("-1", x.on(-1), NONE);
    due("BIG", x.on(BIG), NONE);
    due("SMALL", x.on(SMALL), NONE);
    x.leave(0);
    due("they left", x.on(0), NONE);
    x.archer(3);
    due("another is not placed", x.on(0), NONE);
    due("the layout stays for others", x.on(3), 1);
  }

  private static void lane() {
    ArcheryField x = new ArcheryField();
    x.bay(2);
    due("-1", x.lane(-1, 1), NONE);
    due("2", x.lane(2, 1), NONE);
    due("BIG", x.lane(BIG, 0), NONE);
    due("state -1", x.lane(0, -1), NONE);
    due("state 3", x.lane(0, 3), NONE);
    due("state BIG", x.lane(0, BIG), NONE);
    due("0 to 0", x.lane(0, 0), NONE);
    due("0 to 1", x.lane(0, 1), 0);
    due("1 to 1", x.lane(0, 1), NONE);
    due("1 to 2", x.lane(0, 2), NONE);
    due("to 2 while one is 1", x.lane(1, 2), NONE);
    due("to 1 while one is 1", x.lane(1, 1), 0);
    due("1 to 0", x.lane(0, 0), 1);
    due("to 2 while the other is 1", x.lane(0, 2), NONE);
    due("the other too", x.lane(1, 0), 1);
    due("0 to 2", x.lane(0, 2), 0);
    due("2 to 2", x.lane(0, 2), NONE);
    due("2 to 1", x.lane(0, 1), NONE);
    due("to 1 while one is 2", x.lane(1, 1), NONE);
    due("to 2 while one is 2", x.lane(1, 2), 0);
    due("2 to 0", x.lane(1, 0), 2);
    due("the last 2 to 0", x.lane(0, 0), 2);
    due("to 1 then", x.lane(1, 1), 0);
  }

  private static void laneBays() {
    ArcheryField x = new ArcheryField();
    x.bay(1);
    x.bay(3);
    x.bay(2);
    x.bay(2);
    due("a bay", x.lane(0, 1), 0);
    due("another bay", x.lane(1, 2), 0);
    due("far in that bay", x.lane(3, 1), NONE);
    due("far in that bay, forward", x.lane(3, 2), 0);
    due("the next bay", x.lane(4, 1), 0);
    due("in that bay", x.lane(5, 2), NONE);
    due("the last bay", x.lane(7, 2), 0);
    due("in the last bay", x.lane(6, 1), NONE);
    x.lane(1, 0);
    due("one is forward still", x.lane(1, 1), NONE);
    x.lane(3, 0);
    due("none is", x.lane(1, 1), 0);
  }

  private static void state() {
    ArcheryField x = new ArcheryField();
    due("no lane", x.state(0), NONE);
    x.bay(3);
    x.lane(1, 1);
    x.lane(2, 1);
    x.lane(2, 0);
    due("0", x.state(0), 0);
    due("1", x.state(1), 1);
    due("2", x.state(2), 0);
    due("3", x.state(3), NONE);
    due("-1", x.state(-1), NONE);
    due("BIG", x.state(BIG), NONE);
    due("SMALL", x.state(SMALL), NONE);
  }

  private static void undoEach() {
    ArcheryField x = new ArcheryField();
    due("none", x.undo(), NONE);
    Check.round(x, "face 100:5;leg 2 1 0;nearest;");
    due("a round", x.undo(), 0);
    due("no round again", x.of(0), NONE);
    Check.round(x, "face 100:5;leg 2 1 0;nearest;");
    x.archer(3);
    due("an archer", x.undo(), 1);
    due("no archer again", x.told(0, 0), NONE);
    x.archer(3);
    shootAt(x, 0, 0);
    due("an end", x.undo(), 2);
    due("not shot again", x.told(0, 1), 0);
    due("no value", x.value(0, 0), NONE);
    shootAt(x, 0, 0);
    shootAt(x, 0, 101);
    x.off(0, 0, 1, 1);
    due("a shoot-off", x.undo(), 3);
    due("none told again", x.told(0, 4), 0);
    x.off(0, 0, 1, 1);
    x.take(0);
    shootAt(x, 0, 0);
    due("an end behind a taken one", x.undo(), 3);
    due("the taken one", x.undo(), 2);
    due("both are there", x.told(0, 1), 2);
    due("as it was", x.value(0, 1), 0);
    Check.round(x, "face 1:1;leg 1 1 0;");
    due("a second round", x.undo(), 2);
    due("what was shot", x.told(0, 2), 5);
    due("the shoot-offs", x.told(0, 4), 1);
    due("the round before", x.of(1), 2);
    undoLine();
    undoClasses();
    undoLeave();
  }

  private static void undoLine() {
    ArcheryField x = new ArcheryField();
    x.bay(2);
    x.archer(0);
    x.archer(0);
    x.layout();
    x.lane(0, 1);
    due("a lane", x.undo(), 3);
    due("its state", x.state(0), 0);
    x.lane(0, 1);
    x.bay(3);
    due("a bay", x.undo(), 3);
    due("no such lane", x.state(2), NONE);
    due("the layout is back", x.on(3), 1);
    due("the archer's place", x.told(1, 6), 3);
    due("the lane's state", x.state(0), 1);
    x.leave(0);
    x.layout();
    due("another layout", x.on(0), 1);
    due("a layout", x.undo(), 3);
    due("the one before", x.on(0), NONE);
    due("the place before", x.on(3), 1);
    due("the bays are as they were", x.bay(4), 6);
    x.undo();
    x.bay(1);
    due("of a bay of its own", x.lane(2, 2), 0);
  }

  private static void undoClasses() {
    ArcheryField x = new ArcheryField();
    x.archer(0);
    x.law(3, 1, 0);
    due("a law", x.undo(), 1);
    x.score(0, 1, 1);
    due("no law", x.kind(0, 1, 0), 0);
    due("a score", x.undo(), 1);
    due("no score", x.told(0, 5), 0);
    x.score(0, 1, 1);
    x.law(4, 1, 0);
    x.strike(0, 0);
    due("struck", x.kind(0, 1, 0), 0);
    due("a strike", x.undo(), 3);
    due("not struck", x.kind(0, 1, 0), 4);
    due("strike it again", x.strike(0, 0), true);
    x.today(7);
    due("a day", x.undo(), 3);
    due("back on 0", x.today(6), true);
    due("from 6 on", x.today(5), false);
  }

  private static void undoLeave() {
    ArcheryField x = with("face 100:5;leg 1 1 0;nearest;");
    x.bay(1);
    x.archer(2);
    shootAt(x, 0, 0);
    x.off(0, 0, 1, 1);
    x.score(0, 1, 1);
    x.layout();
    x.leave(0);
    x.archer(7);
    due("the one who came", x.undo(), 3);
    due("the one who left", x.undo(), 2);
    int[] want = {2, 1, 5, 5, 1, 1, 0};
    for (int what = 0; what < want.length; what++) {
      due("back with told " + what, x.told(0, what), want[what]);
    }
    due("back on the line", x.on(0), 0);
  }

  private static void undoDepth() {
    ArcheryField x = new ArcheryField();
    for (int a = 0; a < 7; a++) {
      x.archer(a);
    }
    for (int left = 3; left >= 0; left--) {
      due("undo", x.undo(), left);
      due("goes", x.told(left + 3, 0), NONE);
      due("stays", x.told(left + 2, 0), left + 2);
    }
    due("a fifth", x.undo(), NONE);
    due("it did nothing", x.told(2, 0), 2);
    x.archer(6);
    due("one more", x.undo(), 0);
    x.archer(8);
    x.leave(9);
    x.today(-1);
    x.lane(0, 0);
    x.law(0, 0, 0);
    x.bay(0);
    x.layout();
    x.score(0, -1, 0);
    x.strike(0, 0);
    x.take(0);
    x.off(0, 0, 0, 0);
    x.shoot(0);
    Check.round(x, "face");
    due("what is refused is no change", x.undo(), NONE);
    ArcheryField y = with("face 100:5;leg 1 1 0;");
    y.archer(0);
    y.take(0);
    y.off(0, 0, 0, 0);
    y.shoot(0);
    y.arrow(4, 0, 0);
    y.shoot(0);
    y.score(0, 0, 2001);
    due("nor is it with a round", y.undo(), 1);
  }

  private static void undoLeavesAlone() {
    ArcheryField x = with("face 100:5;leg 2 2 0;");
    x.archer(0);
    x.arrow(0, 0, 0);
    x.arrow(0, 0, 0);
    x.shoot(0);
    x.arrow(0, 0, 0);
    due("undo the end", x.undo(), 2);
    due("the arrow told stays, those shot don't come", x.arrow(0, 101, 0), 2);
    due("they are shot", x.shoot(0), 5);
    Check.write(x, 0, "face 1:1;");
    due("undo that", x.undo(), 2);
    due("the tape stays", x.end(9), true);
    x.end(0);
    Check.round(x, "face 0:1;");
    due("undo the archer", x.undo(), 1);
    due("the fault is of the latest round()", x.fault(0), 2);
    due("its place too", x.fault(1), 5);
  }

  /** No number may make a call throw. */
  private static void wildNumbers() {
    int[] wild = {SMALL, -36501, -1, 0, 1, 2, 7, 15, 16, 17, 288, 1000, 36501, BIG};
    ArcheryField x = clubs(2, 0, 1);
    Check.round(x, "face 100:5;leg 1 1 0;nearest;");
    for (int a : wild) {
      for (int b : wild) {
        x.feed(a, b, a, b, a);
        x.end(b);
        x.round();
        x.fault(a);
        x.of(a);
        x.archer(a);
        x.told(a, b);
        x.arrow(a, b, a);
        x.shoot(b);
        x.value(a, b);
        x.take(a);
        x.off(a, b, a, b);
        x.off(0, 0, a, b);
        x.ahead(a, b);
        x.rank(a);
        x.today(b - 40000);
        x.score(a, b, a);
        x.strike(a, b);
        x.law(a, b, a);
        x.kind(a, b, a);
        x.bay(a);
        x.on(a);
        x.lane(a, b);
        x.state(a);
        x.layout();
        x.leave(a);
        x.undo();
      }
    }
    due("it still answers", x.fault(2), NONE);
  }
}
