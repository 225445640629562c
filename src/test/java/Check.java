/** What the tests share: counting wrong answers, and texts for the tape. */
final class Check {
  private static int asked = 0;
  private static int wrong = 0;

  private Check() {
  }

  static void due(String call, long got, long want) {
    asked++;
    if (got != want) {
      wrong++;
      System.out.println(call + " answered " + got + ", due is " + want);
    }
  }

  static void due(String call, boolean got, boolean want) {
    due(call, got ? 1 : 0, want ? 1 : 0);
  }

  static void fail(String why) {
    asked++;
    wrong++;
    System.out.println(why);
  }

  static void close(String name) {
    System.out.println(name + ": " + asked + " answers, " + wrong + " wrong");
    if (wrong != 0 || asked == 0) {
      System.exit(1);
    }
  }

  /** Puts a text behind what is on the tape; the tape must have had before bytes. */
  static void write(ArcheryField field, int before, String text) {
    for (int at = 0; at < text.length(); at += 20) {
      field.feed(word(text, at), word(text, at + 4), word(text, at + 8), word(text, at + 12),
          word(text, at + 16));
    }
    field.end(before + text.length());
  }

  /** The four signs from a place on as one number, the highest first, blanks behind the text. */
  static int word(String text, int at) {
    int number = 0;
    for (int i = at; i < at + 4; i++) {
      number = number << 8 | (i < text.length() ? text.charAt(i) & 255 : ' ');
    }
    return number;
  }

  static int round(ArcheryField field, String text) {
    field.end(0);
    write(field, 0, text);
    return field.round();
  }
}
