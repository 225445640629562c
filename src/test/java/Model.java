import java.util.ArrayList;
import java.util.Arrays;
import java.util.List;
import java.util.TreeMap;
import java.util.function.Consumer;
import java.util.function.ToIntFunction;
import java.util.regex.Matcher;
import java.util.regex.Pattern;

/**
 * Answers the calls of ArcheryField in another way, for comparison: lists and maps, a text read
 * by patterns, and undo() by doing all changes but the last one anew on an empty world.
 */
final class Model {
  private static final int NONE = -1;

  private static final class Fault extends RuntimeException {
    private static final long serialVersionUID = 1L;
    final int kind;
    final int place;

    Fault(int kind, int place) {
      this.kind = kind;
      this.place = place;
    }
  }

  private static final class Text {
    final String text;
    int at = 0;
    final List<List<int[]>> faces = new ArrayList<>();
    final List<int[]> legs = new ArrayList<>();
    final List<String> ties = new ArrayList<>();
    final TreeMap<String, Integer> once = new TreeMap<>();

    Text(String text) {
      this.text = text;
      for (String word = word(); word != null; word = word()) {
        statement(word, at - word.length());
        token(";");
      }
      if (legs.isEmpty()) {
        throw new Fault(1, text.length());
      }
    }

    private String token(String pattern) {
      Matcher blank = Pattern.compile("[\n ]*").matcher(text).region(at, text.length());
      at = blank.lookingAt() ? blank.end() : at;
      Matcher found = Pattern.compile(pattern).matcher(text).region(at, text.length());
      if (!found.lookingAt()) {
        throw new Fault(1, at);
      }
      at = found.end();
      return found.group();
    }

    private boolean has(String pattern) {
      int before = at;
      try {
        token(pattern);
        return true;
      } catch (Fault none) {
        return false;
      } finally {
        at = before;
      }
    }

    private String word() {
      return has("\\z") ? null : token("[a-z]+");
    }

    private int[] number(int least, int most) {
      String digits = token("[0-9]+");
      int start = at - digits.length();
      if (digits.length() > 6) {
        throw new Fault(1, start + 6);
      }
      int number = Integer.parseInt(digits);
      if (number < least || number > most) {
        throw new Fault(2, start);
      }
      return new int[] {number, start};
    }

    private void few(boolean enough, int place) {
      if (!enough) {
        throw new Fault(3, place);
      }
    }

    private void statement(String word, int place) {
      switch (word) {
        case "face" -> {
          few(faces.size() < 4, place);
          face();
        }
        case "leg" -> {
          few(legs.size() < 4, place);
          int ends = number(1, 12)[0];
          int arrows = number(1, 6)[0];
          int[] face = number(0, 999999);
          few(face[0] < faces.size(), face[1]);
          legs.add(new int[] {ends, arrows, face[0]});
        }
        case "most", "last", "nearest" -> {
          few(ties.size() < 6 && !ties.contains("nearest"), place);
          ties.add(word.equals("most") ? "" + number(0, 20)[0] : word);
        }
        case "bounced", "passed", "shaft" -> {
          few(!once.containsKey(word), place);
          once.put(word, number(0, word.equals("shaft") ? 100 : 20)[0]);
        }
        default -> throw new Fault(1, place);
      }
    }

    private void face() {
      List<int[]> lines = new ArrayList<>();
      do {
        if (lines.size() == 12) {
          token("");
          throw new Fault(3, at);
        }
        int[] before = lines.isEmpty() ? new int[] {10001, 0} : lines.get(lines.size() - 1);
        int radius = number(1, before[0] - 1)[0];
        token(":");
        lines.add(new int[] {radius, number(before[1] + 1, 20)[0]});
      } while (has("[0-9]"));
      faces.add(lines);
    }

    List<int[]> ends() {
      List<int[]> ends = new ArrayList<>();
      for (int[] leg : legs) {
        for (int i = 0; i < leg[0]; i++) {
          ends.add(leg);
        }
      }
      return ends;
    }
  }

  private static final class Person {
    final int club;
    final List<int[]> ends = new ArrayList<>();
    final List<Long> offs = new ArrayList<>();
    final List<int[]> scores = new ArrayList<>();

    Person(int club) {
      this.club = club;
    }

    int[] arrows() {
      return ends.stream().flatMapToInt(Arrays::stream).toArray();
    }

    int last() {
      return ends.isEmpty() ? 0 : Arrays.stream(ends.get(ends.size() - 1)).sum();
    }
  }

  private static final class World {
    Text round = null;
    final TreeMap<Integer, Person> people = new TreeMap<>();
    final List<int[]> laws = new ArrayList<>();
    final List<Integer> bays = new ArrayList<>();
    final List<Integer> states = new ArrayList<>();
    TreeMap<Integer, Integer> places = new TreeMap<>();
    int today = 0;
  }

  private String tape = "";
  private Fault latest = new Fault(0, NONE);
  private final List<int[]> arrows = new ArrayList<>();
  private final List<Consumer<World>> done = new ArrayList<>();
  private int undoable = 0;
  private World world = new World();

  private void change(Consumer<World> what) {
    done.add(what);
    undoable = Math.min(4, undoable + 1);
    what.accept(world);
  }

  int feed(int... numbers) {
    if (tape.length() > 980) {
      return NONE;
    }
    for (int number : numbers) {
      for (int part = 0; part < 4; part++) {
        tape += (char) (number >>> 24 - 8 * part & 0xff);
      }
    }
    return tape.length();
  }

  boolean end(int n) {
    if (n < 0 || n > tape.length()) {
      return false;
    }
    tape = tape.substring(0, n);
    return true;
  }

  int round() {
    String text = tape;
    tape = "";
    try {
      Text read = new Text(text);
      latest = new Fault(0, NONE);
      change(w -> {
        w.round = read;
        w.people.values().forEach(p -> {
          p.ends.clear();
          p.offs.clear();
        });
      });
      return read.ends().size();
    } catch (Fault fault) {
      latest = fault;
      return NONE;
    }
  }

  int fault(int what) {
    return what == 0 ? latest.kind : what == 1 ? latest.place : NONE;
  }

  int of(int what) {
    Text r = world.round;
    if (r == null || what < 0 || what > 7) {
      return NONE;
    }
    List<ToIntFunction<Text>> tells = List.of(t -> t.legs.size(), t -> t.ends().size(),
        t -> t.ends().stream().mapToInt(e -> e[1]).sum(), t -> t.faces.size(),
        t -> t.ties.size(), t -> t.once.getOrDefault("bounced", 0),
        t -> t.once.getOrDefault("passed", 0), t -> t.once.getOrDefault("shaft", 0));
    return tells.get(what).applyAsInt(r);
  }

  int archer(int club) {
    if (club < 0 || club > 7 || world.people.size() == 16) {
      return NONE;
    }
    int free = 0;
    while (world.people.containsKey(free)) {
      free++;
    }
    int number = free;
    change(w -> w.people.put(number, new Person(club)));
    return number;
  }

  boolean leave(int a) {
    if (!world.people.containsKey(a)) {
      return false;
    }
    change(w -> {
      w.people.remove(a);
      w.places.remove(a);
    });
    return true;
  }

  int told(int a, int what) {
    Person p = world.people.get(a);
    if (p == null || what < 0 || what > 6) {
      return NONE;
    }
    return new int[] {p.club, p.ends.size(), Arrays.stream(p.arrows()).sum(), p.last(),
        p.offs.size(), p.scores.size(), world.places.getOrDefault(a, NONE)}[what];
  }

  int arrow(int kind, int x, int y) {
    boolean far = Math.max(Math.abs((long) x), Math.abs((long) y)) > 20000;
    if (arrows.size() == 6 || kind < 0 || kind > 4 || kind == 0 && far
        || kind == 4 && (x < 0 || x > 5)) {
      return NONE;
    }
    arrows.add(new int[] {kind, x, y});
    return arrows.size();
  }

  int shoot(int a) {
    List<int[]> end = new ArrayList<>(arrows);
    arrows.clear();
    Person p = world.people.get(a);
    Text r = world.round;
    if (p == null || r == null || p.ends.size() == r.ends().size()) {
      return -1;
    }
    int[] leg = r.ends().get(p.ends.size());
    if (end.size() != leg[1]) {
      return -2;
    }
    int[] counts = new int[end.size()];
    for (int k = 0; k < counts.length; k++) {
      int[] arrow = end.get(k);
      if (arrow[0] == 4 && (arrow[1] >= k || end.get(arrow[1])[0] == 1)) {
        return -3;
      }
      counts[k] = arrow[0] == 4 ? counts[arrow[1]] : alone(r, r.faces.get(leg[2]), arrow);
    }
    change(w -> w.people.get(a).ends.add(counts));
    return Arrays.stream(counts).sum();
  }

  private static int alone(Text r, List<int[]> face, int[] arrow) {
    if (arrow[0] != 0) {
      return arrow[0] == 1 ? 0 : r.once.getOrDefault(arrow[0] == 2 ? "bounced" : "passed", 0);
    }
    long square = (long) arrow[1] * arrow[1] + (long) arrow[2] * arrow[2];
    for (int line = face.size() - 1; line >= 0; line--) {
      long reach = face.get(line)[0] + r.once.getOrDefault("shaft", 0);
      if (square <= reach * reach) {
        return face.get(line)[1];
      }
    }
    return 0;
  }

  int value(int a, int k) {
    Person p = world.people.get(a);
    return p == null || k < 0 || k >= p.arrows().length ? NONE : p.arrows()[k];
  }

  int take(int a) {
    Person p = world.people.get(a);
    if (p == null || p.ends.isEmpty()) {
      return NONE;
    }
    change(w -> w.people.get(a).ends.remove(w.people.get(a).ends.size() - 1));
    return p.ends.size();
  }

  int off(int a, int kind, int x, int y) {
    Person p = world.people.get(a);
    boolean far = Math.max(Math.abs((long) x), Math.abs((long) y)) > 20000;
    if (p == null || world.round == null || p.ends.size() != world.round.ends().size()
        || p.offs.size() == 8 || kind < 0 || kind > 1 || kind == 0 && far) {
      return NONE;
    }
    long square = kind == 1 ? Long.MAX_VALUE : (long) x * x + (long) y * y;
    change(w -> w.people.get(a).offs.add(square));
    return p.offs.size();
  }

  int ahead(int a, int b) {
    Person p = world.people.get(a);
    Person q = world.people.get(b);
    return p == null || q == null || world.round == null ? -2 : order(p, q);
  }

  private int order(Person p, Person q) {
    int by = Integer.compare(Arrays.stream(p.arrows()).sum(), Arrays.stream(q.arrows()).sum());
    for (String tie : world.round.ties) {
      if (by != 0) {
        return by;
      }
      if (tie.equals("last")) {
        by = Integer.compare(p.last(), q.last());
      } else if (tie.equals("nearest")) {
        by = nearest(p, q);
      } else {
        int v = Integer.parseInt(tie);
        by = Long.compare(Arrays.stream(p.arrows()).filter(x -> x == v).count(),
            Arrays.stream(q.arrows()).filter(x -> x == v).count());
      }
    }
    return by;
  }

  private static int nearest(Person p, Person q) {
    for (int k = 0; k < Math.max(p.offs.size(), q.offs.size()); k++) {
      long one = k < p.offs.size() ? p.offs.get(k) : Long.MAX_VALUE;
      long two = k < q.offs.size() ? q.offs.get(k) : Long.MAX_VALUE;
      if (one != two) {
        return one < two ? 1 : -1;
      }
    }
    return 0;
  }

  int rank(int a) {
    Person p = world.people.get(a);
    return p == null || world.round == null ? NONE
        : 1 + (int) world.people.values().stream().filter(q -> order(q, p) == 1).count();
  }

  boolean today(int day) {
    if (day < world.today || day > 36500) {
      return false;
    }
    change(w -> w.today = day);
    return true;
  }

  int score(int a, int day, int score) {
    Person p = world.people.get(a);
    if (p == null || day < 0 || day > 36500 || score < 0 || score > 2000 || p.scores.size() == 30) {
      return NONE;
    }
    change(w -> w.people.get(a).scores.add(new int[] {day, score, w.today, Integer.MAX_VALUE}));
    return p.scores.size() - 1;
  }

  boolean strike(int a, int k) {
    Person p = world.people.get(a);
    if (p == null || k < 0 || k >= p.scores.size() || p.scores.get(k)[3] < Integer.MAX_VALUE) {
      return false;
    }
    change(w -> w.people.get(a).scores.get(k)[3] = w.today);
    return true;
  }

  int law(int kind, int many, int score) {
    if (world.laws.size() == 6 || kind < 1 || kind > 9 || many < 1 || many > 5 || score < 0
        || score > 2000) {
      return NONE;
    }
    change(w -> w.laws.add(new int[] {kind, many, score}));
    return world.laws.size();
  }

  int kind(int a, int day, int known) {
    Person p = world.people.get(a);
    if (p == null || day < 0 || day > 36500 || known < 0 || known > 36500) {
      return NONE;
    }
    for (int[] law : world.laws) {
      long many = p.scores.stream().filter(s -> s[1] >= law[2] && day - 364 <= s[0] && s[0] <= day
          && s[2] <= known && known < s[3]).count();
      if (many >= law[1]) {
        return law[0];
      }
    }
    return 0;
  }

  int bay(int lanes) {
    if (lanes < 1 || lanes > 4 || world.bays.size() + lanes > 8) {
      return NONE;
    }
    int name = done.size();
    change(w -> {
      for (int i = 0; i < lanes; i++) {
        w.bays.add(name);
        w.states.add(0);
      }
      w.places.clear();
    });
    return world.bays.size();
  }

  int layout() {
    if (world.bays.isEmpty()) {
      return NONE;
    }
    TreeMap<Integer, Integer> found = new TreeMap<>();
    int[] tries = {0};
    if (!place(new ArrayList<>(world.people.keySet()), 0, found, tries)) {
      return tries[0] > 20000 ? -2 : NONE;
    }
    change(w -> w.places = new TreeMap<>(found));
    return found.size();
  }

  private boolean place(List<Integer> who, int at, TreeMap<Integer, Integer> found, int[] tries) {
    if (at == who.size()) {
      return true;
    }
    int a = who.get(at);
    for (int place = 0; place < 2 * world.bays.size(); place++) {
      if (found.containsValue(place)) {
        continue;
      }
      tries[0]++;
      if (tries[0] > 20000) {
        return false;
      }
      if (parted(a, place, found)) {
        found.put(a, place);
        if (place(who, at + 1, found, tries)) {
          return true;
        }
        found.remove(a);
        if (tries[0] > 20000) {
          return false;
        }
      }
    }
    return false;
  }

  private boolean parted(int a, int place, TreeMap<Integer, Integer> found) {
    for (int b : found.keySet()) {
      int other = found.get(b);
      boolean near = other / 2 == place / 2
          || other % 2 == place % 2 && Math.abs(other / 2 - place / 2) == 1;
      if (near && world.people.get(a).club == world.people.get(b).club) {
        return false;
      }
    }
    return true;
  }

  int on(int place) {
    return world.places.entrySet().stream().filter(e -> e.getValue() == place)
        .mapToInt(e -> e.getKey()).findFirst().orElse(NONE);
  }

  int lane(int lane, int state) {
    if (lane < 0 || lane >= world.states.size() || state < 0 || state > 2) {
      return NONE;
    }
    int before = world.states.get(lane);
    if (before == state || before + state == 3) {
      return NONE;
    }
    for (int other = 0; other < world.bays.size() && state > 0; other++) {
      if (world.bays.get(other).equals(world.bays.get(lane))
          && world.states.get(other) == 3 - state) {
        return NONE;
      }
    }
    change(w -> w.states.set(lane, state));
    return before;
  }

  int state(int lane) {
    return lane < 0 || lane >= world.states.size() ? NONE : world.states.get(lane);
  }

  int undo() {
    if (undoable == 0) {
      return NONE;
    }
    undoable--;
    done.remove(done.size() - 1);
    world = new World();
    done.forEach(what -> what.accept(world));
    return undoable;
  }
}
