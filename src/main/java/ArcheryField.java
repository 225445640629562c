import java.util.Arrays;

/**
 * A field for archers: rounds told by a text, ends judged by exact squares, ranks by the text's
 * ties, classes from past scores, places on the line, and a line on which nobody goes forward
 * while one shoots. The words in capitals are those of the document.
 */
public final class ArcheryField {
  /** There is none; it is refused. */
  public static final int NONE = -1;

  private static final int WRONG_COUNT = -2;
  private static final int WRONG_IN = -3;
  private static final int NOT_TO_COMPARE = -2;
  private static final int CLUBS = 8;
  private static final int MOST_ARCHERS = 16;
  private static final int MOST_OFFS = 8;
  private static final int FARTHEST = 20000;
  private static final int LAST_DAY = 36500;
  private static final int MOST_SCORES = 30;
  private static final int MOST_SCORE = 2000;
  private static final int MOST_UNDOS = 4;

  private final Reader reader = new Reader();
  private final Tape tape = reader.tape;
  private final Quiver quiver = new Quiver();
  private final State[] kept = new State[MOST_UNDOS];
  private int keptCount = 0;
  private State now = new State();

  public ArcheryField() {
  }

  public int feed(int a, int b, int c, int d, int e) {
    if (tape.length + Tape.FED_AT_ONCE > Tape.MOST_BYTES) {
      return NONE;
    }
    tape.append(a);
    tape.append(b);
    tape.append(c);
    tape.append(d);
    tape.append(e);
    return tape.length;
  }

  public boolean end(int n) {
    if (n < 0 || n > tape.length) {
      return false;
    }
    tape.length = n;
    return true;
  }

  public int round() {
    Round read = reader.read();
    tape.length = 0;
    if (read == null) {
      return NONE;
    }
    State next = change();
    next.round = read;
    next.forgetShots();
    return read.countEnds();
  }

  public int fault(int what) {
    switch (what) {
      case 0:
        return reader.fault;
      case 1:
        return reader.place;
      default:
        return NONE;
    }
  }

  public int of(int what) {
    return now.round == null ? NONE : now.round.tell(what);
  }

  public int archer(int club) {
    int number = now.freeNumber();
    if (club < 0 || club >= CLUBS || number == NONE) {
      return NONE;
    }
    change().put(number, new Archer(club, new Shots(), new Scores()));
    return number;
  }

  public boolean leave(int a) {
    if (now.find(a) == null) {
      return false;
    }
    State next = change();
    next.put(a, null);
    next.line = next.line.without(a);
    return true;
  }

  public int told(int a, int what) {
    Archer archer = now.find(a);
    if (archer == null) {
      return NONE;
    }
    switch (what) {
      case 0:
        return archer.club;
      case 1:
        return archer.shots.countEnds();
      case 2:
        return archer.shots.total();
      case 3:
        return archer.shots.lastSum();
      case 4:
        return archer.shots.countOffs();
      case 5:
        return archer.scores.count();
      case 6:
        return now.line.placeOf(a);
      default:
        return NONE;
    }
  }

  // ---- shooting

  public int arrow(int kind, int x, int y) {
    return quiver.add(kind, x, y) ? quiver.count : NONE;
  }

  public int shoot(int a) {
    int arrows = quiver.empty();
    Archer archer = now.find(a);
    if (archer == null || now.round == null) {
      return NONE;
    }
    int leg = now.round.legOf(archer.shots.countEnds());
    if (leg == NONE) {
      return NONE;
    }
    if (arrows != now.round.arrowsOf(leg)) {
      return WRONG_COUNT;
    }
    int sum = quiver.judge(now.round, leg, arrows);
    if (sum == NONE) {
      return WRONG_IN;
    }
    change().put(a, archer.with(archer.shots.withEnd(quiver.judged, arrows, sum)));
    return sum;
  }

  public int value(int a, int k) {
    Archer archer = now.find(a);
    return archer == null ? NONE : archer.shots.counted(k);
  }

  public int take(int a) {
    Archer archer = now.find(a);
    if (archer == null || now.round == null || archer.shots.countEnds() == 0) {
      return NONE;
    }
    int left = archer.shots.countEnds() - 1;
    int arrows = now.round.arrowsOf(now.round.legOf(left));
    change().put(a, archer.with(archer.shots.withoutLast(arrows)));
    return left;
  }

  public int off(int a, int kind, int x, int y) {
    Archer archer = now.find(a);
    if (archer == null || now.round == null) {
      return NONE;
    }
    Shots shots = archer.shots;
    if (shots.countEnds() < now.round.countEnds() || shots.countOffs() >= MOST_OFFS) {
      return NONE;
    }
    if (kind != Quiver.MISSED && (kind != Quiver.HIT || !isOnField(x, y))) {
      return NONE;
    }
    int square = kind == Quiver.HIT ? x * x + y * y : Shots.BEYOND;
    change().put(a, archer.with(shots.withOff(square)));
    return shots.countOffs() + 1;
  }

  public int ahead(int a, int b) {
    Archer first = now.find(a);
    Archer second = now.find(b);
    if (first == null || second == null || now.round == null) {
      return NOT_TO_COMPARE;
    }
    return now.round.compare(first.shots, second.shots);
  }

  public int rank(int a) {
    Archer archer = now.find(a);
    if (archer == null || now.round == null) {
      return NONE;
    }
    int rank = 1;
    for (int b = 0; b < MOST_ARCHERS; b++) {
      Archer other = now.find(b);
      if (other != null && now.round.compare(other.shots, archer.shots) > 0) {
        rank++;
      }
    }
    return rank;
  }

  // ---- classes

  public boolean today(int day) {
    if (!isDay(day) || day < now.today) {
      return false;
    }
    change().today = day;
    return true;
  }

  public int score(int a, int day, int score) {
    Archer archer = now.find(a);
    if (archer == null || !isDay(day) || !isScore(score) || archer.scores.count() >= MOST_SCORES) {
      return NONE;
    }
    change().put(a, archer.with(archer.scores.with(day, score, now.today)));
    return archer.scores.count();
  }

  public boolean strike(int a, int k) {
    Archer archer = now.find(a);
    if (archer == null || !archer.scores.canStrike(k)) {
      return false;
    }
    change().put(a, archer.with(archer.scores.withStruck(k, now.today)));
    return true;
  }

  public int law(int kind, int many, int score) {
    if (!now.laws.canAdd(kind, many) || !isScore(score)) {
      return NONE;
    }
    State next = change();
    next.laws = next.laws.with(kind, many, score);
    return next.laws.count();
  }

  public int kind(int a, int day, int known) {
    Archer archer = now.find(a);
    if (archer == null || !isDay(day) || !isDay(known)) {
      return NONE;
    }
    return now.laws.classOf(archer.scores, day, known);
  }

  // ---- the line

  public int bay(int lanes) {
    if (!now.line.canAdd(lanes)) {
      return NONE;
    }
    State next = change();
    next.line = next.line.withBay(lanes);
    return next.line.countLanes();
  }

  public int layout() {
    int places = now.line.countPlaces();
    if (places == 0) {
      return NONE;
    }
    Planner planner = new Planner(now, places);
    int placed = planner.search();
    if (placed < 0) {
      return placed;
    }
    State next = change();
    next.line = next.line.withSeats(planner.seats);
    return placed;
  }

  public int on(int place) {
    return now.line.seatedOn(place);
  }

  public int lane(int lane, int state) {
    if (!now.line.mayBecome(lane, state)) {
      return NONE;
    }
    int before = now.line.stateOf(lane);
    State next = change();
    next.line = next.line.withState(lane, state);
    return before;
  }

  public int state(int lane) {
    return now.line.stateOf(lane);
  }

  public int undo() {
    if (keptCount <= 0) {
      return NONE;
    }
    keptCount--;
    now = kept[keptCount];
    return keptCount;
  }

  /** Keeps what stands for undo() and gives the copy in which the change is made. */
  private State change() {
    if (keptCount == MOST_UNDOS) {
      for (int i = 1; i < MOST_UNDOS; i++) {
        kept[i - 1] = kept[i];
      }
      keptCount--;
    }
    kept[keptCount] = now;
    keptCount++;
    now = new State(now);
    return now;
  }

  private static boolean isDay(int day) {
    return day >= 0 && day <= LAST_DAY;
  }

  private static boolean isScore(int score) {
    return score >= 0 && score <= MOST_SCORE;
  }

  private static boolean isOnField(int x, int y) {
    return x >= -FARTHEST && x <= FARTHEST && y >= -FARTHEST && y <= FARTHEST;
  }

  /** The bytes that were fed and not yet read as a text. */
  private static final class Tape {
    static final int MOST_BYTES = 1000;
    static final int FED_AT_ONCE = 20;
    static final int BYTES_OF_NUMBER = 4;

    final byte[] bytes = new byte[MOST_BYTES];
    int length = 0;

    void append(int number) {
      if (length + BYTES_OF_NUMBER > MOST_BYTES) {
        return;
      }
      for (int shift = 24; shift >= 0; shift -= 8) {
        bytes[length] = (byte) (number >> shift);
        length++;
      }
    }

    /** The byte at a place, 0 to 255; NONE where the tape has none. */
    int signAt(int place) {
      return place >= 0 && place < length ? bytes[place] & 255 : NONE;
    }
  }

  /** Reads the tape as a ROUND's TEXT, from left to right, up to its first FAULT. */
  private static final class Reader {
    static final int MISPLACED = 1;
    static final int IMPOSSIBLE = 2;
    static final int TOO_MANY = 3;
    static final int MOST_DIGITS = 6;
    static final int MOST_NUMBER = 999999;
    static final int MOST_SHAFT = 100;

    private final Tape tape = new Tape();
    private Round draft = new Round();
    private int at = 0;
    private int number = 0;
    private int numberPlace = 0;
    private int fault = 0;
    private int place = NONE;

    /** The ROUND of the text; null with a FAULT, which is kept until the next text is read. */
    Round read() {
      draft = new Round();
      at = 0;
      fault = 0;
      place = NONE;
      skipBlanks();
      for (int i = 0; i < Tape.MOST_BYTES && fault == 0 && at < tape.length; i++) {
        if (readStatement() && readSign(';')) {
          skipBlanks();
        }
      }
      if (fault == 0 && draft.legs == 0) {
        refuse(MISPLACED, tape.length);
      }
      return fault == 0 ? draft : null;
    }

    private boolean readStatement() {
      int word = at;
      skipLetters();
      if (isSpelt(word, "face")) {
        return readFace(word);
      }
      if (isSpelt(word, "leg")) {
        return readLeg(word);
      }
      if (isSpelt(word, "most")) {
        return mayTie(word) && readNumber(0, Round.MOST_VALUE) && draft.addTie(number);
      }
      if (isSpelt(word, "last")) {
        return mayTie(word) && draft.addTie(Round.LAST);
      }
      if (isSpelt(word, "nearest")) {
        return mayTie(word) && draft.addTie(Round.NEAREST);
      }
      if (isSpelt(word, "bounced")) {
        return readOnce(word, Round.BOUNCED, Round.MOST_VALUE);
      }
      if (isSpelt(word, "passed")) {
        return readOnce(word, Round.PASSED, Round.MOST_VALUE);
      }
      if (isSpelt(word, "shaft")) {
        return readOnce(word, Round.SHAFT, MOST_SHAFT);
      }
      return refuse(MISPLACED, word);
    }

    private boolean readFace(int word) {
      if (!draft.addFace()) {
        return refuse(TOO_MANY, word);
      }
      int radius = Round.MOST_RADIUS + 1;
      int value = 0;
      for (int line = 0; line < Round.MOST_LINES; line++) {
        if (line > 0 && !isDigitNext()) {
          return true;
        }
        // Radii fall and values rise, so the LINE before narrows what the next numbers may be.
        if (!readNumber(1, radius - 1)) {
          return false;
        }
        radius = number;
        if (!readSign(':') || !readNumber(value + 1, Round.MOST_VALUE)) {
          return false;
        }
        value = number;
        draft.addLine(radius, value);
      }
      return !isDigitNext() || refuse(TOO_MANY, at);
    }

    private boolean readLeg(int word) {
      if (draft.legs >= Round.MOST_LEGS) {
        return refuse(TOO_MANY, word);
      }
      if (!readNumber(1, Round.MOST_ENDS)) {
        return false;
      }
      int ends = number;
      if (!readNumber(1, Quiver.MOST_ARROWS)) {
        return false;
      }
      int arrows = number;
      if (!readNumber(0, MOST_NUMBER)) {
        return false;
      }
      return draft.addLeg(ends, arrows, number) || refuse(TOO_MANY, numberPlace);
    }

    private boolean mayTie(int word) {
      return draft.canTie() || refuse(TOO_MANY, word);
    }

    private boolean readOnce(int word, int which, int most) {
      if (draft.isSet(which)) {
        return refuse(TOO_MANY, word);
      }
      return readNumber(0, most) && draft.set(which, number);
    }

    /** Reads a number of 1 to 6 digits, which must be from least to most. */
    private boolean readNumber(int least, int most) {
      skipBlanks();
      numberPlace = at;
      number = 0;
      while (at < tape.length && isDigit(tape.signAt(at))) {
        if (at - numberPlace >= MOST_DIGITS) {
          return refuse(MISPLACED, at);
        }
        number = number * 10 + (tape.signAt(at) - '0');
        at++;
      }
      if (at == numberPlace) {
        return refuse(MISPLACED, at);
      }
      return number >= least && number <= most || refuse(IMPOSSIBLE, numberPlace);
    }

    private boolean readSign(char sign) {
      skipBlanks();
      if (tape.signAt(at) != sign) {
        return refuse(MISPLACED, at);
      }
      at++;
      return true;
    }

    private boolean isDigitNext() {
      skipBlanks();
      return isDigit(tape.signAt(at));
    }

    private void skipBlanks() {
      while (at < tape.length && isBlank(tape.signAt(at))) {
        at++;
      }
    }

    private void skipLetters() {
      while (at < tape.length && isLetter(tape.signAt(at))) {
        at++;
      }
    }

    /** Whether the signs from a place up to where the reader stands are this word. */
    private boolean isSpelt(int from, String word) {
      if (at - from != word.length()) {
        return false;
      }
      for (int i = 0; i < word.length(); i++) {
        if (tape.signAt(from + i) != word.charAt(i)) {
          return false;
        }
      }
      return true;
    }

    /** Always false, so that a reading method can end with it. */
    private boolean refuse(int why, int where) {
      fault = why;
      place = where;
      return false;
    }

    private static boolean isBlank(int sign) {
      return sign == 10 || sign == 32;
    }

    private static boolean isLetter(int sign) {
      return sign >= 'a' && sign <= 'z';
    }

    private static boolean isDigit(int sign) {
      return sign >= '0' && sign <= '9';
    }
  }

  /** A ROUND; it does not change any more once its text has been read. */
  private static final class Round {
    static final int MOST_FACES = 4;
    static final int MOST_LINES = 12;
    static final int MOST_RADIUS = 10000;
    static final int MOST_VALUE = 20;
    static final int MOST_LEGS = 4;
    static final int MOST_ENDS = 12;
    static final int MOST_TIES = 6;
    /** A TIE from 0 to 20 is most of that value; these two are the others. */
    static final int LAST = 21;
    static final int NEAREST = 22;
    static final int BOUNCED = 0;
    static final int PASSED = 1;
    static final int SHAFT = 2;

    private int faces = 0;
    private final int[] lines = new int[MOST_FACES];
    private final int[] radii = new int[MOST_FACES * MOST_LINES];
    private final int[] values = new int[MOST_FACES * MOST_LINES];
    private int legs = 0;
    private final int[] legEnds = new int[MOST_LEGS];
    private final int[] legArrows = new int[MOST_LEGS];
    private final int[] legFaces = new int[MOST_LEGS];
    private int ties = 0;
    private final int[] tieKinds = new int[MOST_TIES];
    /** What the text says of BOUNCED, PASSED and SHAFT; NONE where it says nothing. */
    private final int[] settings = {NONE, NONE, NONE};

    boolean addFace() {
      if (faces >= MOST_FACES) {
        return false;
      }
      faces++;
      return true;
    }

    /** One more LINE of the latest FACE. */
    void addLine(int radius, int value) {
      int face = faces - 1;
      if (face < 0 || face >= MOST_FACES || lines[face] >= MOST_LINES) {
        return;
      }
      int line = face * MOST_LINES + lines[face];
      radii[line] = radius;
      values[line] = value;
      lines[face]++;
    }

    boolean addLeg(int ends, int arrows, int face) {
      if (legs >= MOST_LEGS || face < 0 || face >= faces) {
        return false;
      }
      legEnds[legs] = ends;
      legArrows[legs] = arrows;
      legFaces[legs] = face;
      legs++;
      return true;
    }

    boolean canTie() {
      return ties < MOST_TIES && (ties == 0 || tieKinds[ties - 1] != NEAREST);
    }

    boolean addTie(int tie) {
      if (!canTie()) {
        return false;
      }
      tieKinds[ties] = tie;
      ties++;
      return true;
    }

    boolean isSet(int which) {
      return which >= 0 && which < settings.length && settings[which] != NONE;
    }

    boolean set(int which, int number) {
      if (which < 0 || which >= settings.length) {
        return false;
      }
      settings[which] = number;
      return true;
    }

    int setting(int which) {
      return isSet(which) ? settings[which] : 0;
    }

    int tell(int what) {
      switch (what) {
        case 0:
          return legs;
        case 1:
          return countEnds();
        case 2:
          return countArrows();
        case 3:
          return faces;
        case 4:
          return ties;
        case 5:
          return setting(BOUNCED);
        case 6:
          return setting(PASSED);
        case 7:
          return setting(SHAFT);
        default:
          return NONE;
      }
    }

    int countEnds() {
      int ends = 0;
      for (int leg = 0; leg < legs; leg++) {
        ends += legEnds[leg];
      }
      return ends;
    }

    int countArrows() {
      int arrows = 0;
      for (int leg = 0; leg < legs; leg++) {
        arrows += legEnds[leg] * legArrows[leg];
      }
      return arrows;
    }

    /** The LEG of an END, counted from 0 through all LEGS; NONE where the ROUND has no such END. */
    int legOf(int end) {
      int left = end;
      for (int leg = 0; leg < legs; leg++) {
        if (left < legEnds[leg]) {
          return leg;
        }
        left -= legEnds[leg];
      }
      return NONE;
    }

    int arrowsOf(int leg) {
      return leg >= 0 && leg < legs ? legArrows[leg] : 0;
    }

    /** What a HIT at x, y counts on the FACE of a LEG. */
    int valueAt(int leg, int x, int y) {
      int face = leg >= 0 && leg < legs ? legFaces[leg] : NONE;
      if (face < 0 || face >= faces) {
        return 0;
      }
      int square = x * x + y * y;
      int value = 0;
      for (int line = 0; line < lines[face]; line++) {
        int reach = radii[face * MOST_LINES + line] + setting(SHAFT);
        if (square <= reach * reach) {
          value = values[face * MOST_LINES + line];
        }
      }
      return value;
    }

    /** 1 if the first is ahead by TOTAL and TIES, -1 if the second is, 0 if neither. */
    int compare(Shots first, Shots second) {
      int order = Integer.compare(first.total(), second.total());
      for (int tie = 0; tie < ties && order == 0; tie++) {
        order = compareBy(tieKinds[tie], first, second);
      }
      return order;
    }

    private static int compareBy(int tie, Shots first, Shots second) {
      switch (tie) {
        case LAST:
          return Integer.compare(first.lastSum(), second.lastSum());
        case NEAREST:
          return compareOffs(first, second);
        default:
          return Integer.compare(first.countOf(tie), second.countOf(tie));
      }
    }

    private static int compareOffs(Shots first, Shots second) {
      for (int k = 0; k < MOST_OFFS; k++) {
        if (first.squareOf(k) != second.squareOf(k)) {
          return first.squareOf(k) < second.squareOf(k) ? 1 : -1;
        }
      }
      return 0;
    }
  }

  /** The ARROWS told for the END to come. */
  private static final class Quiver {
    static final int MOST_ARROWS = 6;
    static final int HIT = 0;
    static final int MISSED = 1;
    static final int BOUNCED = 2;
    static final int PASSED = 3;
    static final int IN = 4;

    private final int[] kinds = new int[MOST_ARROWS];
    private final int[] xs = new int[MOST_ARROWS];
    private final int[] ys = new int[MOST_ARROWS];
    private int count = 0;
    /** What the ARROWS count that were judged last. */
    private final int[] judged = new int[MOST_ARROWS];

    boolean add(int kind, int x, int y) {
      if (count >= MOST_ARROWS || !canBe(kind, x, y)) {
        return false;
      }
      kinds[count] = kind;
      xs[count] = x;
      ys[count] = y;
      count++;
      return true;
    }

    private static boolean canBe(int kind, int x, int y) {
      switch (kind) {
        case HIT:
          return isOnField(x, y);
        case MISSED:
        case BOUNCED:
        case PASSED:
          return true;
        case IN:
          // Whether that ARROW is ahead of this one is asked only when the END is shot.
          return x >= 0 && x < MOST_ARROWS;
        default:
          return false;
      }
    }

    /** How many ARROWS there were; they can still be judged until the next one is told. */
    int empty() {
      int before = count;
      count = 0;
      return before;
    }

    /** The sum of the first ARROWS; NONE if one of them is IN one that it can't be in. */
    int judge(Round round, int leg, int arrows) {
      int sum = 0;
      for (int k = 0; k < arrows && k < MOST_ARROWS; k++) {
        int counts = judgeOne(round, leg, k);
        if (counts == NONE) {
          return NONE;
        }
        judged[k] = counts;
        sum += counts;
      }
      return sum;
    }

    private int judgeOne(Round round, int leg, int k) {
      switch (kinds[k]) {
        case HIT:
          return round.valueAt(leg, xs[k], ys[k]);
        case BOUNCED:
          return round.setting(Round.BOUNCED);
        case PASSED:
          return round.setting(Round.PASSED);
        case IN:
          return judgeIn(xs[k], k);
        default:
          return 0;
      }
    }

    private int judgeIn(int other, int k) {
      if (other < 0 || other >= k || kinds[other] == MISSED) {
        return NONE;
      }
      return judged[other];
    }
  }

  /** What an ARCHER shot in the ROUND; it never changes, a change is another object. */
  private static final class Shots {
    /** Farther than any square of a place on the field. */
    static final int BEYOND = 1000000000;

    private final int[] sums;
    private final int[] counts;
    private final int[] squares;

    Shots() {
      this(new int[0], new int[0], new int[0]);
    }

    private Shots(int[] sums, int[] counts, int[] squares) {
      this.sums = sums;
      this.counts = counts;
      this.squares = squares;
    }

    int countEnds() {
      return sums.length;
    }

    int countOffs() {
      return squares.length;
    }

    int total() {
      int total = 0;
      for (int sum : sums) {
        total += sum;
      }
      return total;
    }

    int lastSum() {
      return sums.length == 0 ? 0 : sums[sums.length - 1];
    }

    /** What the ARROW of that number counts; NONE without it. */
    int counted(int k) {
      return k >= 0 && k < counts.length ? counts[k] : NONE;
    }

    int countOf(int value) {
      int many = 0;
      for (int count : counts) {
        if (count == value) {
          many++;
        }
      }
      return many;
    }

    int squareOf(int k) {
      return k >= 0 && k < squares.length ? squares[k] : BEYOND;
    }

    Shots withEnd(int[] judged, int arrows, int sum) {
      int[] moreCounts = Arrays.copyOf(counts, counts.length + Math.max(0, arrows));
      for (int k = 0; k < arrows && k < judged.length; k++) {
        moreCounts[counts.length + k] = judged[k];
      }
      return new Shots(joined(sums, sum), moreCounts, squares);
    }

    Shots withoutLast(int arrows) {
      int ends = Math.max(0, sums.length - 1);
      int left = Math.max(0, counts.length - Math.max(0, arrows));
      return new Shots(Arrays.copyOf(sums, ends), Arrays.copyOf(counts, left), squares);
    }

    Shots withOff(int square) {
      return new Shots(sums, counts, joined(squares, square));
    }

    private static int[] joined(int[] row, int last) {
      int[] more = Arrays.copyOf(row, row.length + 1);
      more[row.length] = last;
      return more;
    }
  }

  /** The SCORES of an ARCHER; it never changes, a change is another object. */
  private static final class Scores {
    static final int DAYS_LOOKED_AT = 365;
    static final int WIDTH = 4;
    static final int DAY = 0;
    static final int POINTS = 1;
    static final int KNOWN = 2;
    static final int STRUCK = 3;

    /** WIDTH numbers each; STRUCK is the day from which that is KNOWN, or NONE. */
    private final int[] rows;

    Scores() {
      this(new int[0]);
    }

    private Scores(int[] rows) {
      this.rows = rows;
    }

    int count() {
      return rows.length / WIDTH;
    }

    Scores with(int day, int points, int known) {
      int[] more = Arrays.copyOf(rows, rows.length + WIDTH);
      more[rows.length + DAY] = day;
      more[rows.length + POINTS] = points;
      more[rows.length + KNOWN] = known;
      more[rows.length + STRUCK] = NONE;
      return new Scores(more);
    }

    boolean canStrike(int k) {
      return k >= 0 && k < count() && rows[k * WIDTH + STRUCK] == NONE;
    }

    Scores withStruck(int k, int known) {
      int[] changed = rows.clone();
      if (k >= 0 && k < count()) {
        changed[k * WIDTH + STRUCK] = known;
      }
      return new Scores(changed);
    }

    /** How many SCORES of at least so much stand for a day, as KNOWN on a day. */
    int countFor(int day, int known, int least) {
      int many = 0;
      for (int k = 0; k < count(); k++) {
        if (standsFor(k * WIDTH, day, known) && rows[k * WIDTH + POINTS] >= least) {
          many++;
        }
      }
      return many;
    }

    private boolean standsFor(int row, int day, int known) {
      boolean isNear = rows[row + DAY] <= day && rows[row + DAY] > day - DAYS_LOOKED_AT;
      boolean isStruck = rows[row + STRUCK] != NONE && rows[row + STRUCK] <= known;
      return isNear && rows[row + KNOWN] <= known && !isStruck;
    }
  }

  /** The CLASS LAWS in their order; it never changes, a change is another object. */
  private static final class Laws {
    static final int MOST_LAWS = 6;
    static final int MOST_CLASS = 9;
    static final int MOST_MANY = 5;
    static final int WIDTH = 3;
    static final int CLASS = 0;
    static final int MANY = 1;
    static final int LEAST = 2;

    private final int[] rows;

    Laws() {
      this(new int[0]);
    }

    private Laws(int[] rows) {
      this.rows = rows;
    }

    int count() {
      return rows.length / WIDTH;
    }

    boolean canAdd(int number, int many) {
      boolean isClass = number >= 1 && number <= MOST_CLASS;
      return count() < MOST_LAWS && isClass && many >= 1 && many <= MOST_MANY;
    }

    Laws with(int number, int many, int least) {
      int[] more = Arrays.copyOf(rows, rows.length + WIDTH);
      more[rows.length + CLASS] = number;
      more[rows.length + MANY] = many;
      more[rows.length + LEAST] = least;
      return new Laws(more);
    }

    int classOf(Scores scores, int day, int known) {
      for (int k = 0; k < count(); k++) {
        int row = k * WIDTH;
        if (scores.countFor(day, known, rows[row + LEAST]) >= rows[row + MANY]) {
          return rows[row + CLASS];
        }
      }
      return 0;
    }
  }

  /** An ARCHER with all that is theirs; it never changes, a change is another object. */
  private static final class Archer {
    private final int club;
    private final Shots shots;
    private final Scores scores;

    Archer(int club, Shots shots, Scores scores) {
      this.club = club;
      this.shots = shots;
      this.scores = scores;
    }

    Archer with(Shots other) {
      return new Archer(club, other, scores);
    }

    Archer with(Scores other) {
      return new Archer(club, shots, other);
    }
  }

  /** LANES, BAYS and the LAYOUT; it never changes, a change is another object. */
  private static final class Line {
    static final int MOST_LANES = 8;
    static final int MOST_OF_BAY = 4;
    static final int PLACES_OF_LANE = 2;
    static final int WAITING = 0;
    static final int SHOOTING = 1;
    static final int FORWARD = 2;

    /** By LANE: the number of its BAY, and its state. */
    private final int[] bays;
    private final int[] states;
    /** By place: the number of the ARCHER there, or NONE. */
    private final int[] seats;

    Line() {
      this(new int[0], new int[0], new int[0]);
    }

    private Line(int[] bays, int[] states, int[] seats) {
      this.bays = bays;
      this.states = states;
      this.seats = seats;
    }

    int countLanes() {
      return states.length;
    }

    int countPlaces() {
      return seats.length;
    }

    boolean canAdd(int lanes) {
      return lanes >= 1 && lanes <= MOST_OF_BAY && countLanes() + lanes <= MOST_LANES;
    }

    Line withBay(int lanes) {
      if (!canAdd(lanes)) {
        return this;
      }
      int before = countLanes();
      int bay = before == 0 ? 0 : bays[before - 1] + 1;
      int[] moreBays = Arrays.copyOf(bays, before + lanes);
      int[] moreStates = Arrays.copyOf(states, before + lanes);
      for (int lane = before; lane < before + lanes; lane++) {
        moreBays[lane] = bay;
        moreStates[lane] = WAITING;
      }
      int[] freeSeats = new int[(before + lanes) * PLACES_OF_LANE];
      Arrays.fill(freeSeats, NONE);
      return new Line(moreBays, moreStates, freeSeats);
    }

    Line withSeats(int[] others) {
      return new Line(bays, states, others);
    }

    Line without(int archer) {
      int place = placeOf(archer);
      if (place == NONE) {
        return this;
      }
      int[] others = seats.clone();
      others[place] = NONE;
      return new Line(bays, states, others);
    }

    int placeOf(int archer) {
      for (int place = 0; place < seats.length; place++) {
        if (seats[place] == archer) {
          return place;
        }
      }
      return NONE;
    }

    int seatedOn(int place) {
      return place >= 0 && place < seats.length ? seats[place] : NONE;
    }

    int stateOf(int lane) {
      return lane >= 0 && lane < states.length ? states[lane] : NONE;
    }

    boolean mayBecome(int lane, int state) {
      switch (stateOf(lane)) {
        case WAITING:
          return state == SHOOTING && !isAnyOfBay(lane, FORWARD)
              || state == FORWARD && !isAnyOfBay(lane, SHOOTING);
        case SHOOTING:
        case FORWARD:
          return state == WAITING;
        default:
          return false;
      }
    }

    private boolean isAnyOfBay(int lane, int state) {
      if (lane < 0 || lane >= bays.length) {
        return false;
      }
      for (int other = 0; other < bays.length; other++) {
        if (bays[other] == bays[lane] && states[other] == state) {
          return true;
        }
      }
      return false;
    }

    Line withState(int lane, int state) {
      int[] others = states.clone();
      if (lane >= 0 && lane < others.length) {
        others[lane] = state;
      }
      return new Line(bays, others, seats);
    }
  }

  /** The search for the first LAYOUT, TRY by TRY as the document tells it. */
  private static final class Planner {
    static final int MOST_TRIES = 20000;
    static final int SPENT = -2;
    /** Each step puts an ARCHER, by a TRY of its own, or lifts one that was put. */
    static final int MOST_STEPS = 1000000;

    /** The ARCHERS that are there, by number: their numbers, CLUBS and places. */
    private final int[] numbers = new int[MOST_ARCHERS];
    private final int[] clubs = new int[MOST_ARCHERS];
    private final int[] placed = new int[MOST_ARCHERS];
    private int archers = 0;
    /** By place: the ARCHER there and their CLUB, or NONE. */
    private final int[] seats;
    private final int[] seatClubs;
    private int tries = 0;

    Planner(State state, int places) {
      seats = new int[Math.max(0, places)];
      seatClubs = new int[Math.max(0, places)];
      Arrays.fill(seats, NONE);
      Arrays.fill(seatClubs, NONE);
      for (int a = 0; a < MOST_ARCHERS; a++) {
        Archer archer = state.find(a);
        if (archer != null) {
          numbers[archers] = a;
          clubs[archers] = archer.club;
          archers++;
        }
      }
    }

    /** How many are placed; NONE if there is no LAYOUT, SPENT if there are too many TRIES. */
    int search() {
      int who = 0;
      int from = 0;
      for (int step = 0; step < MOST_STEPS && who < archers; step++) {
        int place = nextPlace(clubs[who], from);
        if (tries > MOST_TRIES) {
          return SPENT;
        }
        if (place < seats.length) {
          put(who, place);
          who++;
          from = 0;
        } else if (who == 0) {
          return NONE;
        } else {
          who--;
          from = placed[who] + 1;
          lift(placed[who]);
        }
      }
      return who < archers ? SPENT : archers;
    }

    /** The first place from there on that is free and parts the CLUB; beyond all without one. */
    private int nextPlace(int club, int from) {
      for (int place = from; place < seats.length; place++) {
        if (seats[place] == NONE) {
          tries++;
          if (tries > MOST_TRIES || isParted(club, place)) {
            return place;
          }
        }
      }
      return seats.length;
    }

    private boolean isParted(int club, int place) {
      return clubOn(place ^ 1) != club && clubOn(place - 2) != club && clubOn(place + 2) != club;
    }

    private int clubOn(int place) {
      return place >= 0 && place < seatClubs.length ? seatClubs[place] : NONE;
    }

    private void put(int who, int place) {
      placed[who] = place;
      seats[place] = numbers[who];
      seatClubs[place] = clubs[who];
    }

    private void lift(int place) {
      seats[place] = NONE;
      seatClubs[place] = NONE;
    }
  }

  /** All that undo() brings back. One that is kept for it is never changed, only copied. */
  private static final class State {
    /** Null without one. */
    private Round round;
    /** By number; null where it is free. */
    private final Archer[] archers;
    private Laws laws;
    private Line line;
    private int today;

    State() {
      round = null;
      archers = new Archer[MOST_ARCHERS];
      laws = new Laws();
      line = new Line();
      today = 0;
    }

    State(State from) {
      round = from.round;
      archers = from.archers.clone();
      laws = from.laws;
      line = from.line;
      today = from.today;
    }

    /** The ARCHER of a number; null when there is none such. */
    Archer find(int a) {
      return a >= 0 && a < archers.length ? archers[a] : null;
    }

    void put(int a, Archer archer) {
      if (a >= 0 && a < archers.length) {
        archers[a] = archer;
      }
    }

    int freeNumber() {
      for (int a = 0; a < archers.length; a++) {
        if (archers[a] == null) {
          return a;
        }
      }
      return NONE;
    }

    void forgetShots() {
      Shots nothing = new Shots();
      for (int a = 0; a < archers.length; a++) {
        if (archers[a] != null) {
          archers[a] = archers[a].with(nothing);
        }
      }
    }
  }
}
