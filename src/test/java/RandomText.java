import java.util.Random;

/** Texts of rounds, most of them good ones, many with something amiss. */
final class RandomText {
  private static final String SIGNS = "face leg most last nearest:;0123456789\n ax\t-";
  private final Random random;
  private final StringBuilder text = new StringBuilder();
  private int faces = 0;
  /** How seldom a number or a statement is amiss. */
  private final int care;

  RandomText(Random random) {
    this.random = random;
    care = random.nextInt(3) == 0 ? 15 : 400;
  }

  String text() {
    for (int many = 1 + random.nextInt(oneIn(4) ? 5 : 2); many > 0; many--) {
      face();
    }
    for (int many = 1 + random.nextInt(oneIn(6) ? 5 : 2); many > 0; many--) {
      leg();
    }
    for (int many = random.nextInt(5); many > 0; many--) {
      statement();
    }
    if (!oneIn(3)) {
      put("nearest");
      close();
    }
    if (oneIn(care)) {
      statement();
    }
    spoil();
    return text.length() > 1000 ? text.substring(0, 1000) : text.toString();
  }

  private void statement() {
    switch (random.nextInt(oneIn(3) ? 9 : 7)) {
      case 0, 1, 2 -> one("most", new int[] {0, 5, 9, 10, 20, 21}[random.nextInt(oneIn(care) ? 6 : 5)]);
      case 3 -> {
        put("last");
        close();
      }
      case 4 -> one("bounced", random.nextInt(oneIn(care) ? 30 : 21));
      case 5 -> one("passed", random.nextInt(oneIn(care) ? 30 : 21));
      case 6 -> one("shaft", random.nextInt(oneIn(care) ? 130 : 101));
      case 7 -> face();
      default -> leg();
    }
  }

  private void one(String word, int number) {
    put(word);
    number(number);
    close();
  }

  private void face() {
    put("face");
    int lines = 1 + random.nextInt(oneIn(8) ? 13 : 5);
    int radius = oneIn(care) ? 10002 : 700 - random.nextInt(100);
    int value = oneIn(care) ? 0 : 1 + random.nextInt(3);
    for (int line = 0; line < lines; line++) {
      number(radius);
      blank();
      text.append(':');
      number(value);
      radius -= oneIn(care) ? random.nextInt(3) : 1 + random.nextInt(60);
      value += oneIn(care) ? random.nextInt(9) : lines > 6 ? 1 : 1 + random.nextInt(3);
    }
    close();
    faces++;
  }

  private void leg() {
    put("leg");
    number(oneIn(care) ? random.nextInt(15) : 1 + random.nextInt(oneIn(5) ? 12 : 2));
    number(oneIn(care) ? random.nextInt(9) : 1 + random.nextInt(oneIn(5) ? 6 : 3));
    number(oneIn(care) ? random.nextInt(6) : random.nextInt(faces));
    close();
  }

  private void put(String word) {
    blank();
    text.append(word);
  }

  private void number(int number) {
    int last = text.length() == 0 ? ' ' : text.charAt(text.length() - 1);
    if (last >= '0' && last <= '9') {
      text.append(oneIn(6) ? '\n' : ' ');
    }
    blank();
    for (int zeros = oneIn(care) ? random.nextInt(7) : 0; zeros > 0; zeros--) {
      text.append('0');
    }
    text.append(number);
  }

  private void close() {
    blank();
    if (!oneIn(care)) {
      text.append(';');
    }
  }

  private void blank() {
    if (oneIn(5)) {
      text.append(oneIn(4) ? "\n" : " ");
    }
  }

  private boolean oneIn(int n) {
    return random.nextInt(n) == 0;
  }

  /** Now and then one sign is another, one too many, or the text is cut off. */
  private void spoil() {
    int at = random.nextInt(text.length());
    char sign = oneIn(9) ? (char) random.nextInt(256) : SIGNS.charAt(random.nextInt(SIGNS.length()));
    if (oneIn(8)) {
      text.setCharAt(at, sign);
    }
    if (oneIn(12)) {
      text.insert(at, sign);
    }
    if (oneIn(15)) {
      text.setLength(at);
    }
  }
}
