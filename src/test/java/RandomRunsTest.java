import java.util.Random;
import java.util.TreeMap;

/** Runs of 512 calls, drawn from fixed seeds, whose answers must be those of Model. */
public final class RandomRunsTest {
  private static final int RUNS = 1500;
  private static final int CALLS = 512;
  private static final TreeMap<String, Integer> SEEN = new TreeMap<>();

  private final Random random;
  private final int run;
  private final ArcheryField field = new ArcheryField();
  private final Model model = new Model();
  /** What this run does most; others come in too. */
  private final int theme;
  private int calls = 0;
  private int arrowsDue = 1;

  private RandomRunsTest(int run) {
    this.run = run;
    random = new Random(run * 7919L + 17);
    theme = run % 5;
  }

  public static void main(String[] args) {
    for (int run = 0; run < RUNS; run++) {
      new RandomRunsTest(run).play();
    }
    for (String call : new String[] {"shoot -1", "shoot -2", "shoot -3", "shoot more", "layout -1",
        "layout -2", "layout 0", "layout more", "ahead -2", "ahead -1", "ahead 0", "ahead 1",
        "off 1", "off more", "kind 0", "kind 1", "undo -1", "undo 0", "undo 3", "take 0", "take 1",
        "strike 1", "rank 1", "rank more", "lane -1", "lane 0", "lane 1", "lane 2", "round more",
        "fault0 0", "fault0 1", "fault0 2", "fault0 3", "feed -1", "told more", "value more"}) {
      Check.due("runs with " + call, SEEN.containsKey(call), true);
    }
    if (args.length > 1) {
      System.out.println(SEEN);
    }
    Check.close("RandomRunsTest");
  }

  private int below(int n) {
    return random.nextInt(n);
  }

  private boolean oneIn(int n) {
    return random.nextInt(n) == 0;
  }

  private void same(String call, long got, long want) {
    calls++;
    String name = call.substring(0, call.indexOf('('));
    SEEN.merge(name + " " + (want > 3 ? "more" : "" + want), 1, Integer::sum);
    Check.due("run " + run + ", call " + calls + ": " + call, got, want);
  }

  private void same(String call, boolean got, boolean want) {
    same(call, got ? 1 : 0, want ? 1 : 0);
  }

  private void play() {
    for (int i = oneIn(6) ? 5 : 0; i < 5 && field.of(0) == ArcheryField.NONE; i++) {
      round();
    }
    for (int a = oneIn(6) ? 0 : 2 + below(15); a > 0; a--) {
      archer();
    }
    while (calls < CALLS) {
      if (oneIn(3)) {
        any();
      } else {
        themed();
      }
    }
  }

  private void themed() {
    switch (theme) {
      case 0 -> {
        round();
        look();
      }
      case 1, 2 -> {
        end();
        order();
      }
      case 3 -> classes();
      default -> line();
    }
  }

  private void any() {
    switch (below(9)) {
      case 0 -> {
        if (oneIn(3)) {
          round();
        }
      }
      case 1 -> archer();
      case 2 -> {
        if (oneIn(4)) {
          int a = number(16);
          same("leave(" + a + ")", field.leave(a), model.leave(a));
        }
      }
      case 3 -> end();
      case 4 -> order();
      case 5 -> classes();
      case 6 -> line();
      case 7 -> look();
      default -> undo();
    }
  }

  private void undo() {
    for (int i = below(3); i >= 0; i--) {
      same("undo()", field.undo(), model.undo());
    }
    look();
  }

  /** A number from 0 to most - 1, now and then one just outside or far outside. */
  private int number(int most) {
    if (oneIn(40)) {
      return new int[] {-1, most, most + 1, Integer.MAX_VALUE, Integer.MIN_VALUE}[below(5)];
    }
    return below(most);
  }

  private int who() {
    return oneIn(4) ? number(16) : below(3);
  }

  private void archer() {
    int club = oneIn(2) ? number(8) : below(3);
    same("archer(" + club + ")", field.archer(club), model.archer(club));
  }

  private void round() {
    String text = new RandomText(random).text();
    if (oneIn(30)) {
      wildTape();
    }
    for (int at = 0; at < text.length(); at += 20) {
      int[] w = new int[5];
      for (int i = 0; i < 5; i++) {
        w[i] = Check.word(text, at + 4 * i);
      }
      same("feed()", field.feed(w[0], w[1], w[2], w[3], w[4]), model.feed(w));
    }
    int n = oneIn(40) ? below(1200) - 50 : text.length();
    same("end(" + n + ")", field.end(n), model.end(n));
    same("round() of " + text, field.round(), model.round());
    for (int what = 0; what < 2; what++) {
      same("fault" + what + "() of " + text, field.fault(what), model.fault(what));
    }
    arrowsDue = 1 + below(3);
  }

  private void wildTape() {
    for (int i = below(60); i >= 0; i--) {
      int n = random.nextInt();
      same("feed()", field.feed(n, n, n, n, n), model.feed(n, n, n, n, n));
    }
    same("round()", field.round(), model.round());
  }

  private int place() {
    return oneIn(30) ? below(40010) - 20005 : oneIn(2) ? below(60) - 30 : below(1400) - 700;
  }

  private void end() {
    int a = who();
    int many = oneIn(12) ? below(8) : arrowsDue;
    for (int k = 0; k < many; k++) {
      int kind = oneIn(2) ? 0 : number(5);
      int x = kind == 4 ? oneIn(8) ? number(6) : below(k + 1) : place();
      int y = oneIn(2) ? 0 : place();
      same("arrow(" + kind + "," + x + "," + y + ")", field.arrow(kind, x, y),
          model.arrow(kind, x, y));
    }
    int got = field.shoot(a);
    same("shoot(" + a + ")", got, model.shoot(a));
    if (got == -2) {
      arrowsDue = 1 + arrowsDue % 6;
    }
    int k = number(10);
    same("value(" + a + "," + k + ")", field.value(a, k), model.value(a, k));
    if (oneIn(8)) {
      same("take(" + a + ")", field.take(a), model.take(a));
    }
  }

  private void order() {
    int a = who();
    int b = who();
    if (oneIn(2)) {
      int kind = oneIn(3) ? 1 : number(2);
      int x = below(5) - 2;
      int y = oneIn(4) ? place() : 0;
      same("off(" + a + "," + kind + "," + x + "," + y + ")", field.off(a, kind, x, y),
          model.off(a, kind, x, y));
    }
    same("ahead(" + a + "," + b + ")", field.ahead(a, b), model.ahead(a, b));
    same("rank(" + a + ")", field.rank(a), model.rank(a));
  }

  private int day() {
    return oneIn(40) ? number(36501) : 1000 + below(oneIn(2) ? 8 : 740);
  }

  private void classes() {
    int a = who();
    int day = day();
    int known = below(60);
    int points = oneIn(3) ? number(2001) : 500 + below(4);
    switch (below(6)) {
      case 0 -> {
        int to = oneIn(10) ? number(36501) : below(60);
        if (!oneIn(50) && to > 60) {
          to = 61;
        }
        same("today(" + to + ")", field.today(to), model.today(to));
      }
      case 1 -> {
        int kind = number(10);
        int many = oneIn(2) ? 1 : number(6);
        same("law(" + kind + "," + many + "," + points + ")", field.law(kind, many, points),
            model.law(kind, many, points));
      }
      case 2 -> {
        int k = oneIn(3) ? number(30) : below(4);
        same("strike(" + a + "," + k + ")", field.strike(a, k), model.strike(a, k));
      }
      case 3 -> same("score(" + a + "," + day + "," + points + ")", field.score(a, day, points),
          model.score(a, day, points));
      default -> {
        known = oneIn(20) ? number(36501) : known;
        same("kind(" + a + "," + day + "," + known + ")", field.kind(a, day, known),
            model.kind(a, day, known));
      }
    }
  }

  private void line() {
    int lane = number(8);
    int state = number(3);
    switch (below(12)) {
      case 0 -> {
        int lanes = oneIn(3) ? number(6) : 1 + below(2);
        same("bay(" + lanes + ")", field.bay(lanes), model.bay(lanes));
      }
      case 1 -> {
        same("layout()", field.layout(), model.layout());
        look();
      }
      case 2 -> same("on(" + (lane * 2 + 1) + ")", field.on(lane * 2 + 1), model.on(lane * 2 + 1));
      case 3 -> same("on(" + lane + ")", field.on(lane), model.on(lane));
      case 4, 5 -> same("state(" + lane + ")", field.state(lane), model.state(lane));
      default -> same("lane(" + lane + "," + state + ")", field.lane(lane, state),
          model.lane(lane, state));
    }
  }

  private void look() {
    int what = number(8);
    same("of(" + what + ")", field.of(what), model.of(what));
    same("fault(" + what + ")", field.fault(what), model.fault(what));
    for (int i = 0; i < 3; i++) {
      int a = who();
      int told = number(7);
      same("told(" + a + "," + told + ")", field.told(a, told), model.told(a, told));
    }
    int place = number(16);
    same("on(" + place + ")", field.on(place), model.on(place));
    int lane = number(8);
    same("state(" + lane + ")", field.state(lane), model.state(lane));
  }
}
