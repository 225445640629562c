/** The boundary cases of a round's text: Terms I, and promises 2 (feed) to 6 (of). */
public final class BoundsOfTextTest {
  private static final int NONE = ArcheryField.NONE;
  private static final int BIG = Bound.BIG;
  private static final int SMALL = Bound.SMALL;
  private static final String LEG = "face 1:1;leg 1 1 0;";
  private static final String TWELVE =
      "face 13:1 12:2 11:3 10:4 9:5 8:6 7:7 6:8 5:9 4:10 3:11 2:12";

  private BoundsOfTextTest() {
  }

  public static void main(String[] args) {
    feedUpTo1000();
    feedHighestByteFirst();
    endWithinTheTape();
    textOf1000Bytes();
    blanks();
    signsBehindAWord();
    signsBehindANumber();
    letters();
    digits();
    twoNeedABlank();
    ranges();
    radiiFall();
    valuesRise();
    faces();
    lines();
    legs();
    legAtAFaceThatWasTold();
    ties();
    behindNearestThereIsNone();
    onceEachAtMost();
    zeroWithout();
    aLegAtLeast();
    endsTooSoon();
    statements();
    theFirstAlongTheText();
    theFirstWithinAStatement();
    roundCountsEnds();
    roundTakesTheTape();
    roundTakesWhatWasShot();
    fault();
    of();
    Check.close("BoundsOfTextTest");
  }

  /** round() of the text answers this, without a fault. */
  private static Played taken(String text, int ends) {
    Played x = Bound.taken("round of '" + text + "'", Bound::nothing, y -> y.round(text), ends);
    Check.due("fault of '" + text + "'", x.fault(0), 0);
    Check.due("its place in '" + text + "'", x.fault(1), NONE);
    return x;
  }

  /** round() of the text answers NONE, with that fault at that place. */
  private static void faulty(String text, int fault, int place) {
    Played x = Bound.taken("round of '" + text + "'", Bound::nothing, y -> y.round(text), NONE);
    Check.due("fault of '" + text + "'", x.fault(0), fault);
    Check.due("its place in '" + text + "'", x.fault(1), place);
    Check.due("no round by '" + text + "'", x.of(0), NONE);
  }

  /** As faulty(), and all but the tape and the fault is as it was. */
  private static void refused(String text, int fault, int place) {
    faulty(text, fault, place);
    Bound.refused("round of '" + text + "'", Bound::rich, x -> x.round(text), NONE,
        x -> x.end(0), Look.FAULT);
  }

  private static String times(int many, String text) {
    return text.repeat(many);
  }

  private static void fill(Played x, int bytes) {
    x.write(times(bytes, " "));
  }

  // "NONE, doing nothing, if there would be more than 1000."
  private static void feedUpTo1000() {
    Bound.taken("the first twenty", Bound::nothing, x -> x.feed(0, 0, 0, 0, 0), 20);
    Bound.taken("feed at 979", x -> fill(x, 979), x -> x.feed(0, 0, 0, 0, 0), 999);
    Bound.taken("feed at 980", x -> fill(x, 980), x -> x.feed(0, 0, 0, 0, 0), 1000);
    for (int bytes : new int[] {981, 982, 999, 1000}) {
      Bound.refused("feed at " + bytes, x -> fill(x, bytes), x -> x.feed(-1, -1, -1, -1, -1), NONE);
    }
    String text = LEG + times(1000 - LEG.length(), " ");
    Played x = new Played();
    x.write(text);
    Check.due("feed behind a text of 1000", x.feed(-1, -1, -1, -1, -1), NONE);
    Check.due("feed again", x.feed(0, 0, 0, 0, 0), NONE);
    Check.due("no byte came", x.end(1001), 0);
    Check.due("all are there", x.end(1000), 1);
    Check.due("the text is as it was", x.round(), 1);
    Check.due("behind round() there is room again", x.feed(0, 0, 0, 0, 0), 20);
    Played y = new Played();
    for (int bytes = 20; bytes <= 1000; bytes += 20) {
      Check.due("feed up to " + bytes, y.feed(SMALL, BIG, -1, 0, 1), bytes);
    }
    Check.due("a 51st feed", y.feed(SMALL, BIG, -1, 0, 1), NONE);
  }

  // "of each number the highest first"
  private static void feedHighestByteFirst() {
    for (int at = 0; at < 20; at++) {
      StringBuilder text = new StringBuilder(times(20, " "));
      text.setCharAt(at, (char) 255);
      Played x = new Played();
      x.feed(text.toString(), 0);
      Check.due("round of a byte 255", x.round(), NONE);
      Check.due("the place of byte " + at, x.fault(1), at);
    }
  }

  // "false, doing nothing, if it has not so many, or n is below 0."
  private static void endWithinTheTape() {
    for (int n : new int[] {-1, 21, SMALL, BIG, 1000, 1001}) {
      Bound.refused("end(" + n + ") of 20", Bound::rich, x -> x.end(n), 0);
    }
    for (int n = 0; n <= 20; n++) {
      int bytes = n;
      Bound.taken("end of 20", x -> fill(x, 20), x -> x.end(bytes), 1);
      Played y = new Played();
      fill(y, bytes);
      Check.due("feed behind them", y.feed(0, 0, 0, 0, 0), bytes + 20);
    }
    Bound.taken("end(0) of none", Bound::nothing, x -> x.end(0), 1);
    Bound.refused("end(1) of none", Bound::nothing, x -> x.end(1), 0);
    Bound.refused("end(-1) of none", Bound::nothing, x -> x.end(-1), 0);
    Bound.taken("end(1000) of 1000", x -> fill(x, 1000), x -> x.end(1000), 1);
    Bound.refused("end(1001) of 1000", x -> fill(x, 1000), x -> x.end(1001), 0);
    Bound.taken("end(999) of 1000", x -> fill(x, 1000), x -> x.end(999), 1);
    Bound.refused("a byte that was cut does not come back",
        x -> {
          x.write(LEG);
          x.end(5);
        }, x -> x.end(6), 0);
  }

  private static void textOf1000Bytes() {
    String open = times(1000 - LEG.length(), " ") + LEG.substring(0, LEG.length() - 1);
    taken(open + ";", 1);
    refused(open + " ", 1, 1000);
    refused(open + "x", 1, 999);
    refused(open, 1, 999);
    refused(times(1000, " "), 1, 1000);
    refused(times(999, " ") + "1", 1, 999);
    taken(LEG + times(981, "\n"), 1);
    // The most statements that a tape can hold: each but the first is refused in its turn.
    refused(times(1000, ";"), 1, 0);
    refused(LEG + times(196, "last;"), 3, 19 + 30);
  }

  // "blanks (10, 32) between where one likes"
  private static void blanks() {
    for (int sign = 0; sign < 256; sign++) {
      String between = "face 1:1;" + (char) sign + "leg 1 1 0;";
      if (sign == 10 || sign == 32) {
        taken(between, 1);
      } else {
        faulty(between, 1, 9);
      }
    }
    for (int sign : new int[] {0, 9, 11, 13, 31, 33, 127, 128, 160, 255}) {
      refused("face 1:1;" + (char) sign + "leg 1 1 0;", 1, 9);
      refused((char) sign + LEG, 1, 0);
      refused(LEG + (char) sign, 1, 19);
      refused("face" + (char) sign + "1:1;leg 1 1 0;", 1, 4);
    }
    taken("  \n\nface\n1 : 1\n\n;\n leg\n1\n1 0 ; last ; most 1\n;shaft\n0 \n; \n", 1);
  }

  private static boolean isLetter(int sign) {
    return sign >= 'a' && sign <= 'z';
  }

  private static boolean isDigit(int sign) {
    return sign >= '0' && sign <= '9';
  }

  private static void signsBehindAWord() {
    for (int sign = 0; sign < 256; sign++) {
      String text = LEG + "last" + (char) sign;
      if (sign == ';') {
        taken(text, 1);
      } else if (isLetter(sign)) {
        faulty(text, 1, 19);
      } else {
        // A blank may stand there, but then the text ends too soon.
        faulty(text, 1, sign == 10 || sign == 32 ? 24 : 23);
      }
    }
  }

  private static void signsBehindANumber() {
    for (int sign = 0; sign < 256; sign++) {
      String text = LEG + "shaft 1" + (char) sign + ";";
      if (sign == 10 || sign == 32 || isDigit(sign)) {
        taken(text, 1);
      } else {
        faulty(text, 1, sign == ';' ? 27 : 26);
      }
      if (sign != ':' && sign != 10 && sign != 32 && !isDigit(sign)) {
        faulty("face 1" + (char) sign + "1;", 1, 6);
      }
    }
    faulty("face 1:1;leg 1 1 0/;", 1, 18);
    faulty("face 1:1;leg 1 1 0:;", 1, 18);
    faulty("face /:1;", 1, 5);
    taken("face 9:9;leg 9 6 0;", 9);
  }

  // "words (letters a .. z)"
  private static void letters() {
    String[] words = {"face", "leg", "most", "last", "nearest", "bounced", "passed", "shaft"};
    for (String word : words) {
      faulty(word.substring(0, 1).toUpperCase() + word.substring(1) + " 1;", 1, 0);
      faulty(word.substring(0, word.length() - 1) + " 1;", 1, 0);
      faulty(word.substring(0, word.length() - 1), 1, 0);
      faulty(word.substring(1) + " 1;", 1, 0);
      faulty(word + "a 1;", 1, 0);
      faulty(word + "z 1;", 1, 0);
      faulty(word + "s;", 1, 0);
      faulty(word + word + " 1;", 1, 0);
      faulty(word + "` 1;", 1, word.length());
      faulty(word + "{ 1;", 1, word.length());
      faulty(word + "A 1;", 1, word.length());
      faulty("a" + word, 1, 0);
      for (int at = 0; at < word.length(); at++) {
        StringBuilder other = new StringBuilder(word);
        other.setCharAt(at, word.charAt(at) == 'q' ? 'r' : 'q');
        faulty(other + " 1;", 1, 0);
      }
    }
    refused("a", 1, 0);
    refused(times(1000, "z"), 1, 0);
  }

  /** Each number of a text: what is ahead of it, what is behind it, and one that may be there. */
  private static final String[][] NUMBERS = {
      {"face ", ":1;leg 1 1 0;", "7"},
      {"face 9:", ";leg 1 1 0;", "7"},
      {"face 9:1 ", ":2;leg 1 1 0;", "7"},
      {"face 9:1 8:", ";leg 1 1 0;", "7"},
      {"face 1:1;leg ", " 1 0;", "1"},
      {"face 1:1;leg 1 ", " 0;", "6"},
      {"face 1:1;face 1:1;leg 1 1 ", ";", "1"},
      {LEG + "most ", ";", "7"},
      {LEG + "bounced ", ";", "7"},
      {LEG + "passed ", ";", "7"},
      {LEG + "shaft ", ";", "7"}};

  // "numbers (1 to 6 digits)", "a 7th digit, too"
  private static void digits() {
    for (String[] number : NUMBERS) {
      int place = number[0].length();
      for (int zeros = 0; zeros <= 5; zeros++) {
        taken(number[0] + times(zeros, "0") + number[2] + number[1], 1);
      }
      refused(number[0] + times(6, "0") + number[2] + number[1], 1, place + 6);
      faulty(number[0] + times(7, "0") + number[2] + number[1], 1, place + 6);
      faulty(number[0] + times(900, "0"), 1, place + 6);
      faulty(number[0] + "9999999" + number[1], 1, place + 6);
      faulty(number[0] + "2147483648" + number[1], 1, place + 6);
      faulty(number[0] + "4294967297" + number[1], 1, place + 6);
      faulty(number[0] + "1234567", 1, place + 6);
      // Without it, the number behind it (where there is one) would take its place.
      if (number[1].charAt(0) != ' ') {
        refused(number[0] + number[1], 1, place);
      }
      faulty(number[0] + "x" + number[1], 1, place);
      faulty(number[0] + "-1" + number[1], 1, place);
      faulty(number[0] + "+1" + number[1], 1, place);
      faulty(number[0] + ":" + number[1], 1, place);
      faulty(number[0], 1, place);
    }
    // Where no number can be, it is that number and not its 7th digit.
    faulty("1234567", 1, 0);
    faulty(LEG + "last 1234567;", 1, 24);
    faulty("face 1:1;leg 1 1 0 1234567;", 1, 19);
  }

  // "(two words or two numbers need one)"
  private static void twoNeedABlank() {
    taken("face1:1;leg1 1 0;most1;bounced1;passed1;shaft1;nearest;", 1);
    taken("face2:1 1:2;leg1\n1 0;", 1);
    faulty(LEG + "lastlast;", 1, 19);
    faulty(LEG + "last last;", 1, 24);
    faulty("face 1:1;leg 11 0;", 2, 16);
    faulty("face 1:1;leg 1 10;", 2, 15);
    faulty("face 1:1;leg 12 1;", 1, 17);
    faulty("face 2:11:2;", 1, 9);
    faulty("face 1:1 leg 1 1 0;", 1, 9);
    faulty("face face", 1, 5);
    faulty("1 1", 1, 0);
  }

  private static void range(String ahead, String behind, int least, int most) {
    int[] good = {least, least + 1, most - 1, most};
    for (int number : good) {
      taken(ahead + number + behind);
    }
    int[] bad = {least - 1, most + 1, most * 10, 999999};
    for (int number : bad) {
      if (number >= 0 && (number < least || number > most)) {
        refused(ahead + number + behind, 2, ahead.length());
        faulty(ahead + "  " + number + behind, 2, ahead.length() + 2);
      }
    }
    taken(ahead + digits(most) + behind);
    faulty(ahead + digits(most + 1) + behind, 2, ahead.length());
    faulty(ahead + (most + 1), 2, ahead.length());
    faulty(ahead + (most + 1) + " x", 2, ahead.length());
  }

  private static String digits(int number) {
    return String.format("%06d", number);
  }

  /** The text is taken, with however many ENDS. */
  private static void taken(String text) {
    Played x = new Played();
    Check.due("round of '" + text + "' is taken", x.round(text) > 0, true);
    Check.due("fault of '" + text + "'", x.fault(0), 0);
    Check.due("its place in '" + text + "'", x.fault(1), NONE);
  }

  // "radii (tenths of a millimetre, 1 .. 10000)", "values (1 .. 20)", "1 .. 12 ENDS of 1 .. 6
  // arrows", "most value (0 .. 20)", "bounced value, passed value (0 .. 20), shaft radius (0 ..
  // 100)", "2 a number that can't be, at its first digit"
  private static void ranges() {
    range("face ", ":1;leg 1 1 0;", 1, 10000);
    range("face 1:", ";leg 1 1 0;", 1, 20);
    range("face 1:1;leg ", " 1 0;", 1, 12);
    range("face 1:1;leg 1 ", " 0;", 1, 6);
    range(LEG + "most ", ";", 0, 20);
    range(LEG + "bounced ", ";", 0, 20);
    range(LEG + "passed ", ";", 0, 20);
    range(LEG + "shaft ", ";", 0, 100);
    // The later FACES, LEGS and TIES have the same bounds.
    range(LEG + "face ", ":1;", 1, 10000);
    range(LEG + "face 1:", ";", 1, 20);
    range("face 1:1;leg 1 1 0;leg 1 ", " 0;", 1, 6);
    range(LEG + "last;last;last;last;last;most ", ";", 0, 20);
  }

  // "radii .. fall from LINE to LINE"
  private static void radiiFall() {
    range("face 10000:1 ", ":2;leg 1 1 0;", 1, 9999);
    range("face 100:1 ", ":2;leg 1 1 0;", 1, 99);
    range("face 100:1 50:2 ", ":3;leg 1 1 0;", 1, 49);
    taken("face 2:1 1:2;leg 1 1 0;", 1);
    refused("face 2:1 2:2;leg 1 1 0;", 2, 9);
    refused("face 2:1 3:2;leg 1 1 0;", 2, 9);
    refused("face 1:1 1:2;leg 1 1 0;", 2, 9);
    refused("face 1:1 0:2;leg 1 1 0;", 2, 9);
    // A FACE of its own begins anew.
    taken("face 2:1 1:2;face 10000:1 9999:20;leg 1 1 1;", 1);
  }

  // "values .. rise"
  private static void valuesRise() {
    range("face 9:1 8:", ";leg 1 1 0;", 2, 20);
    range("face 9:1 8:7 7:", ";leg 1 1 0;", 8, 20);
    taken("face 9:19 8:20;leg 1 1 0;", 1);
    refused("face 9:20 8:20;leg 1 1 0;", 2, 12);
    refused("face 9:20 8:19;leg 1 1 0;", 2, 12);
    refused("face 9:20 8:21;leg 1 1 0;", 2, 12);
    refused("face 9:5 8:0;leg 1 1 0;", 2, 11);
    taken("face 9:19 8:20;face 9:1 8:2;leg 1 1 1;", 1);
  }

  // "one more FACE (4 at most)", "A 5th FACE ..: at its word"
  private static void faces() {
    for (int many = 1; many <= 4; many++) {
      Played x = taken(times(many, "face 1:1;") + "leg 1 1 0;", 1);
      Check.due("FACES", x.of(3), many);
    }
    refused(times(5, "face 1:1;"), 3, 36);
    refused(times(4, "face 1:1;") + "leg 1 1 0; \nface 1:1;", 3, 48);
    refused(times(4, "face 1:1;") + "face", 3, 36);
    refused(times(4, "face 1:1;") + "face 0:0;", 3, 36);
    refused(times(4, "face 1:1;") + "faces 1:1;", 1, 36);
    refused(times(3, "face 1:1;") + "face;", 1, 31);
  }

  // "of 1 to 12 LINES", "a 13th LINE: at its radius"
  private static void lines() {
    refused("face;leg 1 1 0;", 1, 4);
    refused("face ;leg 1 1 0;", 1, 5);
    refused("face", 1, 4);
    taken("face 1:1;leg 1 1 0;", 1);
    StringBuilder text = new StringBuilder("face");
    for (int many = 1; many <= 12; many++) {
      text.append(" ").append(10001 - many).append(":").append(many);
      taken(text + ";leg 1 1 0;", 1);
    }
    taken(TWELVE + ";leg 1 1 0;", 1);
    refused(TWELVE + " 1:13;leg 1 1 0;", 3, 60);
    refused(TWELVE + "\n \n1:13;leg 1 1 0;", 3, 62);
    refused(TWELVE + " 1", 3, 60);
    refused(TWELVE + " 1:21;", 3, 60);
    refused(TWELVE + " :13;", 1, 60);
    refused(TWELVE + " x;", 1, 60);
    refused(TWELVE + " ", 1, 60);
    taken(TWELVE + ";" + TWELVE + ";leg 1 1 1;", 1);
    refused("face 1:1;" + TWELVE + " 1:13;", 3, 69);
    Played x = taken("face 12:9 11:10 10:11 9:12 8:13 7:14 6:15 5:16 4:17 3:18 2:19 1:20;"
        + "leg 12 1 0;", 12);
    x.archer(0);
    for (int at = 1; at <= 12; at++) {
      Check.due("each of the 12 LINES counts", x.shootAt(0, at), 21 - at);
    }
  }

  // "one more LEG (4 at most)", "A 5th .. LEG ..: at its word"
  private static void legs() {
    for (int many = 1; many <= 4; many++) {
      Played x = taken("face 1:1;" + times(many, "leg 2 3 0;"), 2 * many);
      Check.due("LEGS", x.of(0), many);
      Check.due("ENDS", x.of(1), 2 * many);
      Check.due("arrows", x.of(2), 6 * many);
    }
    refused("face 1:1;" + times(5, "leg 2 3 0;"), 3, 49);
    refused("face 1:1;" + times(4, "leg 2 3 0;") + "last;  leg 2 3 0;", 3, 56);
    refused("face 1:1;" + times(4, "leg 2 3 0;") + "leg", 3, 49);
    refused("face 1:1;" + times(4, "leg 2 3 0;") + "leg 13 7 9;", 3, 49);
    refused("face 1:1;" + times(4, "leg 2 3 0;") + "legs", 1, 49);
    refused("face 1:1;" + times(3, "leg 2 3 0;") + "leg;", 1, 42);
    refused("face 1:1;leg 1;", 1, 14);
    refused("face 1:1;leg 1 1;", 1, 16);
    refused("face 1:1;leg 1 1 0 0;", 1, 19);
  }

  // "at a FACE (0, 1, ..) that was told", "a LEG without its FACE (at its FACE's number)"
  private static void legAtAFaceThatWasTold() {
    for (int many = 0; many <= 4; many++) {
      String told = times(many, "face 1:1;");
      for (int face = 0; face < many; face++) {
        taken(told + "leg 1 1 " + face + ";", 1);
      }
      refused(told + "leg 1 1 " + many + ";", 3, told.length() + 8);
      refused(told + "leg 1 1 " + (many + 1) + ";", 3, told.length() + 8);
      refused(told + "leg 1 1   999999;", 3, told.length() + 10);
    }
    refused("leg 1 1 0;face 1:1;", 3, 8);
    refused("face 1:1;leg 1 1 1;face 1:1;", 3, 17);
    taken("face 1:1;leg 1 1 0;face 1:1;leg 1 1 1;", 2);
    refused("face 1:1;leg 1 1 000001;", 3, 17);
    taken("face 1:1;face 1:1;leg 1 1 000001;", 1);
  }

  // "one more TIE (6 at most ..)", "a 7th TIE: at its word"
  private static void ties() {
    String[] words = {"most 0;", "last;", "nearest;"};
    for (int many = 0; many <= 6; many++) {
      Played x = taken(LEG + times(many, "most 20;"), 1);
      Check.due("TIES", x.of(4), many);
    }
    for (String word : words) {
      taken(LEG + times(5, "last;") + word, 1);
      taken(LEG + times(5, "most 1;") + word, 1);
      refused(LEG + times(6, "last;") + word, 3, 49);
      refused(LEG + times(6, "last;") + " shaft 1; " + word, 3, 59);
    }
    refused(LEG + times(6, "last;") + "most", 3, 49);
    refused(LEG + times(6, "last;") + "most 21;", 3, 49);
    refused(LEG + times(5, "last;") + "most;", 1, 48);
    taken(times(6, "last;") + "shaft 1;bounced 1;passed 1;" + LEG, 1);
  }

  // "behind nearest there is none", "nearest with a TIE behind it (at that one's word)"
  private static void behindNearestThereIsNone() {
    taken(LEG + "nearest;", 1);
    taken(LEG + "last;nearest;", 1);
    taken(LEG + times(5, "last;") + "nearest;", 1);
    refused(LEG + "nearest;nearest;", 3, 27);
    refused(LEG + "nearest;last;", 3, 27);
    refused(LEG + "nearest;most 1;", 3, 27);
    refused(LEG + "nearest;most", 3, 27);
    refused(LEG + "nearest;bounced 1;\nlast;", 3, 38);
    refused(LEG + "last;nearest;last;", 3, 32);
    refused(LEG + times(5, "last;") + "nearest;last;", 3, 52);
    taken("nearest;bounced 1;passed 1;shaft 1;" + LEG, 1);
  }

  // "once each at most", "what may be told once again (at its word)"
  private static void onceEachAtMost() {
    String[] words = {"bounced", "passed", "shaft"};
    for (String word : words) {
      String told = word + " 0;";
      taken(LEG + told, 1);
      refused(LEG + told + told, 3, 19 + told.length());
      refused(LEG + told + word + " 1;", 3, 19 + told.length());
      refused(LEG + told + "last; " + word, 3, 25 + told.length());
      refused(LEG + told + word + " 101;", 3, 19 + told.length());
      refused(told + LEG + told, 3, 19 + told.length());
    }
    taken(LEG + "bounced 1;passed 1;shaft 1;", 1);
    taken(LEG + "shaft 1;passed 1;bounced 1;", 1);
  }

  // "(0 without)"
  private static void zeroWithout() {
    String[] told = {"bounced 20;", "passed 20;", "shaft 100;"};
    int[] want = {20, 20, 100};
    for (int i = 0; i < told.length; i++) {
      Played x = taken(LEG + told[i], 1);
      for (int j = 0; j < told.length; j++) {
        Check.due("of(" + (5 + j) + ") by " + told[i], x.of(5 + j), i == j ? want[j] : 0);
      }
      Check.due("without it again", x.round(LEG), 1);
      Check.due("0 without", x.of(5 + i), 0);
    }
  }

  // "There is a LEG at least.", "Without a LEG: 1 at the text's length."
  private static void aLegAtLeast() {
    String[] without = {"", " ", "\n", "   \n\n  ", "face 1:1;", "face 1:1; ", "last;", "nearest;\n",
        "most 1;bounced 1;passed 1;shaft 1;", "face 1:1;face 1:1;last;   "};
    for (String text : without) {
      refused(text, 1, text.length());
    }
    taken("face 1:1;last;   leg 1 1 0;", 1);
    Bound.refused("round() of an object that has no tape", Bound::nothing, Played::round, NONE,
        x -> x.end(0), Look.FAULT);
  }

  // "at the text's length, if it ends too soon": a text that is cut at each of its places
  private static void endsTooSoon() {
    String text = " face 500:1 30:5 ; leg 1 2 0 ;most 2; last ;nearest;bounced 4;passed 5 ;shaft 60;";
    int ends = 0;
    for (int n = 0; n <= text.length(); n++) {
      String cut = text.substring(0, n);
      boolean isWhole = cut.trim().isEmpty() || cut.trim().endsWith(";");
      if (isWhole && cut.contains("leg")) {
        taken(cut, 1);
        ends++;
      } else {
        faulty(cut, 1, isCutInAWord(text, n) ? wordAt(text, n) : n);
      }
    }
    Check.due("cuts that are texts", ends, 8);
  }

  private static boolean isCutInAWord(String text, int n) {
    return n > 0 && n < text.length() && isLetter(text.charAt(n - 1)) && isLetter(text.charAt(n));
  }

  private static int wordAt(String text, int n) {
    int at = n;
    while (at > 0 && isLetter(text.charAt(at - 1))) {
      at--;
    }
    return at;
  }

  // "TEXT: { STATEMENT ; }"
  private static void statements() {
    refused(";" + LEG, 1, 0);
    refused("; ", 1, 0);
    refused(LEG + ";", 1, 19);
    refused(LEG + " \n;", 1, 21);
    refused("face 1:1;;leg 1 1 0;", 1, 9);
    refused(":" + LEG, 1, 0);
    refused("0" + LEG, 1, 0);
    refused(LEG + "last:", 1, 23);
    refused(LEG + "last", 1, 23);
    refused(LEG + "last 1;", 1, 24);
    refused(LEG + "nearest 0;", 1, 27);
    refused(LEG + "last;" + "x", 1, 24);
    refused("face 1;1;", 1, 6);
    refused("face 1:1:", 1, 8);
    refused("face 1::1;", 1, 7);
    refused("face 2:1;1:2;", 1, 9);
    refused("face 2:1 1;", 1, 10);
    refused("face 2:1 1 2;", 1, 11);
  }

  /** A statement with a fault, which it is, and where it is from the statement's begin on. */
  private static final String[] BAD = {"x;", "face 0:1;", "face 1:21;", "face 1 1;", "leg 1 1 9;",
      "leg 13 1 0;", "leg 1 7 0;", "leg 1 1;", "most 21;", "most;", "shaft 101;", "bounced 21;",
      "passed x;", "last last;", "nearest 1;", "shaft 0000000;", "face 5:1 5:2;", ";"};
  private static final int[][] BAD_AT = {{1, 0}, {2, 5}, {2, 7}, {1, 7}, {3, 8}, {2, 4}, {2, 6},
      {1, 7}, {2, 5}, {1, 4}, {2, 6}, {2, 8}, {1, 7}, {1, 5}, {1, 8}, {1, 12}, {2, 9}, {1, 0}};

  // "FAULTS, the first along the text"
  private static void theFirstAlongTheText() {
    for (int i = 0; i < BAD.length; i++) {
      refused(BAD[i], BAD_AT[i][0], BAD_AT[i][1]);
      refused(LEG + BAD[i], BAD_AT[i][0], 19 + BAD_AT[i][1]);
      for (String behind : BAD) {
        faulty(BAD[i] + behind, BAD_AT[i][0], BAD_AT[i][1]);
        faulty(LEG + BAD[i] + behind, BAD_AT[i][0], 19 + BAD_AT[i][1]);
      }
      faulty(LEG + "nearest;last;" + BAD[i], 3, 27);
      faulty(LEG + "shaft 1;shaft 1;" + BAD[i], 3, 27);
    }
  }

  private static void theFirstWithinAStatement() {
    refused("face 10001:21;", 2, 5);
    refused("face 10001;", 2, 5);
    refused("face 1:21 1:1;", 2, 7);
    refused("face 5:21 x", 2, 7);
    refused("face 5:1 5:1;", 2, 9);
    refused("leg 13 7 9 9;", 2, 4);
    refused("leg 12 7 9 9;", 2, 7);
    refused("leg 12 6 9 9;", 3, 9);
    refused("leg 13", 2, 4);
    refused("leg 12 6 0", 3, 9);
    refused("most 21", 2, 5);
    refused("most 20", 1, 7);
    refused("shaft 101:", 2, 6);
    refused("shaft 100:", 1, 9);
  }

  // "how many ENDS it has in all"
  private static void roundCountsEnds() {
    taken("face 1:1;leg 1 1 0;", 1);
    taken("face 1:1;leg 12 1 0;", 12);
    taken("face 1:1;leg 12 1 0;leg 1 6 0;", 13);
    Played x = taken("face 1:1;" + times(4, "leg 12 6 0;"), 48);
    Check.due("ENDS in all", x.of(1), 48);
    Check.due("arrows in all", x.of(2), 288);
  }

  // "The tape (it goes)", "(the ROUND before stays)"
  private static void roundTakesTheTape() {
    String[] texts = {LEG, "face 0:1;", "", LEG + times(981, " "), times(1000, "x")};
    for (String text : texts) {
      Played x = new Played();
      x.round(text);
      Check.due("no byte is left", x.end(1), 0);
      Check.due("none at all", x.end(0), 1);
      Check.due("the tape begins anew", x.feed(0, 0, 0, 0, 0), 20);
    }
    Played y = taken(LEG, 1);
    Check.due("the text is not there for another round()", y.round(), NONE);
    Check.due("the ROUND before stays", y.of(1), 1);
    Check.due("the fault is of the latest", y.fault(0), 1);
    Check.due("an empty text", y.fault(1), 0);
  }

  // "(what was shot goes, and the SHOOT-OFFS)"
  private static void roundTakesWhatWasShot() {
    Played x = new Played();
    Bound.rich(x);
    Check.due("a round", x.round(Bound.RICH_TEXT), 3);
    for (int a = 0; a < 4; a++) {
      for (int what = 1; what <= 4; what++) {
        Check.due("told " + a + " " + what, x.told(a, what), 0);
      }
      Check.due("no arrow", x.value(a, 0), NONE);
      Check.due("no END", x.take(a), NONE);
      Check.due("no SHOOT-OFF yet", x.off(a, 0, 0, 0), NONE);
      Check.due("all are alike", x.rank(a), 1);
    }
    Check.due("SCORES stay", x.told(0, 5), 2);
    Check.due("places stay", x.told(0, 6), 0);
    Check.due("LANES stay", x.state(3), 2);
    Check.due("ARROWS told for an END to come stay", x.arrow(1, 0, 0), 3);
    Check.due("as they were", x.shoot(3), 18);
  }

  // "0 without, and ahead of any", "NONE without", "NONE for another what."
  private static void fault() {
    Played x = new Played();
    Check.due("ahead of any", x.fault(0), 0);
    Check.due("ahead of any, its place", x.fault(1), NONE);
    int[] others = {-1, 2, 3, BIG, SMALL};
    for (int what : others) {
      Check.due("ahead of any, another", x.fault(what), NONE);
    }
    x.round("leg 1 1 0;");
    Check.due("a fault", x.fault(0), 3);
    Check.due("its place", x.fault(1), 8);
    for (int what : others) {
      Check.due("another of a fault", x.fault(what), NONE);
      Bound.refused("fault(" + what + ")", Bound::rich, y -> y.fault(what), NONE);
    }
    x.round(LEG);
    Check.due("without", x.fault(0), 0);
    Check.due("without, its place", x.fault(1), NONE);
    x.round();
    Check.due("at place 0", x.fault(1), 0);
    Check.due("of an empty text", x.fault(0), 1);
    x.round(times(1000, " "));
    Check.due("at place 1000", x.fault(1), 1000);
  }

  // "NONE without one, or for others."
  private static void of() {
    Played x = new Played();
    for (int what = -1; what <= 8; what++) {
      Check.due("without a ROUND: of(" + what + ")", x.of(what), NONE);
    }
    x.round("face 0:1;");
    Check.due("a fault makes none", x.of(0), NONE);
    x.round(LEG);
    int[] least = {1, 1, 1, 1, 0, 0, 0, 0};
    for (int what = 0; what < 8; what++) {
      Check.due("the least of(" + what + ")", x.of(what), least[what]);
    }
    x.round(times(4, "face 1:1;") + times(4, "leg 12 6 3;") + times(6, "last;")
        + "bounced 20;passed 20;shaft 100;");
    int[] most = {4, 48, 288, 4, 6, 20, 20, 100};
    for (int what = 0; what < 8; what++) {
      Check.due("the most of(" + what + ")", x.of(what), most[what]);
    }
    for (int what : new int[] {-1, 8, 9, BIG, SMALL}) {
      Check.due("of(" + what + ")", x.of(what), NONE);
      Bound.refused("of(" + what + ")", Bound::rich, y -> y.of(what), NONE);
    }
  }
}
