/** The limits that 'Terms' tells of FRAMES and RULES: the last value that is taken, the first that isn't. */
public final class TermsTest {
  private static final Check CHECK = new Check("TermsTest");
  private static final int NONE = PostFrame.NONE;

  private static void due(String call, long got, long want) {
    CHECK.due(call, got, want);
  }

  private static int power(int base, int exponent) {
    int p = 1;
    for (int i = 0; i < exponent; i++) p *= base;
    return p;
  }

  private static void good(String text, int entries) {
    due("frame of '" + text + "'", Check.frame(new PostFrame(), text), entries);
  }

  /** The last NUMBER is not as told. */
  private static void bad(String text) {
    PostFrame x = Check.framed("frame 3 2 2;plan 0 0 1;letter 8");
    due("frame of '" + text + "'", Check.frame(x, text), Check.fault(text.lastIndexOf(' ') + 1, 1));
    int[] stay = {3, 2, 2, 1, 1};
    for (int what = 0; what < 5; what++) due("count " + what + " behind '" + text + "'", x.count(what), stay[what]);
  }

  // ---------------------------------------------------------------- FRAME

  private static void shapes() {
    CHECK.part("promise 4, RADIX, LONG and HOLES");
    for (int n = 0; n <= 8; n++) {
      if (n >= 2 && n <= 4) good("frame " + n + " 1 1", 0);
      else bad("frame " + n);
      if (n >= 1 && n <= 4) good("frame 2 " + n + " 1", 0);
      else bad("frame 2 " + n);
      if (n >= 1 && n <= 6) good("frame 2 1 " + n, 0);
      else bad("frame 2 1 " + n);
    }
    for (int radix = 2; radix <= 4; radix++) {
      for (int length = 1; length <= 4; length++) {
        PostFrame x = Check.framed("frame " + radix + " " + length + " 1");
        due("the last CODE", x.post(power(radix, length) - 1), 1);
        due("one behind it", x.post(power(radix, length)), NONE);
      }
    }
  }

  private static void rooms() {
    CHECK.part("promise 4, room");
    for (int holes = 1; holes <= 6; holes++) {
      String frame = "frame 2 1 " + holes + ";room ";
      for (int hole = 0; hole < holes; hole++) good(frame + hole + " 1", 0);
      bad(frame + holes);
      bad(frame + 99999);
    }
    for (int room : new int[] {0, 21, 22, 99999}) bad("frame 2 1 6;room 5 " + room);
    for (int room = 1; room <= 20; room++) {
      PostFrame x = Check.framed("frame 2 1 6;room 5 " + room);
      due("ROOM", x.hole(5, 0), room);
      due("of another 5", x.hole(4, 0), 5);
    }
    PostFrame x = Check.framed("frame 2 1 2;room 1 20;room 0 3;room 1 1");
    due("of one the last told", x.hole(1, 0), 1);
    due("of another its own", x.hole(0, 0), 3);
  }

  private static void plans() {
    CHECK.part("promise 4, plan");
    for (int radix = 2; radix <= 4; radix++) {
      for (int length = 1; length <= 4; length++) {
        String plan = "frame " + radix + " " + length + " 6;plan ";
        for (int digits = 0; digits <= length; digits++) {
          int prefixes = power(radix, digits);
          good(plan + digits + " " + (prefixes - 1) + " 5", 1);
          good(plan + digits + " 0 0", 1);
          bad(plan + digits + " " + prefixes);
          bad(plan + digits + " 0 6");
        }
        bad(plan + (length + 1));
      }
    }
    PostFrame x = Check.framed("frame 2 1 2;plan 1 1 0;plan 0 0 1;plan 1 1 1");
    due("told twice, no new one", x.count(3), 2);
    due("its number stays", x.entry(0, 1), 1);
    due("the HOLE is this now", x.entry(0, 2), 1);
    StringBuilder eleven = new StringBuilder("frame 4 4 2");
    for (int i = 0; i < 11; i++) eleven.append(";plan 4 ").append(i).append(" 0");
    good(eleven.toString(), 11);
    good(eleven + ";plan 4 10 1", 11);
    good(eleven + ";plan 4 11 1", 12);
    good(eleven + ";plan 4 10 1;plan 4 11 1", 12);
    String twelve = eleven + ";plan 4 11 1";
    due("a plan where there are twelve", Check.frame(new PostFrame(), twelve + ";plan 4 11 1"), Check.fault(twelve.length() + 1, 4));
  }

  private static void letters() {
    CHECK.part("promise 4, letter");
    for (int radix = 2; radix <= 4; radix++) {
      for (int length = 1; length <= 4; length++) {
        String letter = "frame " + radix + " " + length + " 1;letter ";
        int codes = power(radix, length);
        due("the last CODE", Check.framed(letter + (codes - 1)).waits(0), codes - 1);
        due("the first", Check.framed(letter + 0).waits(0), 0);
        bad(letter + codes);
      }
    }
    StringBuilder text = new StringBuilder("frame 4 4 1");
    for (int i = 0; i < 12; i++) {
      text.append(";letter ").append(255 - i);
      PostFrame x = Check.framed(text.toString());
      due("wait", x.count(4), i + 1);
      due("the last one", x.waits(i), 255 - i);
      due("in front", x.waits(0), 255);
    }
    due("a thirteenth", Check.frame(new PostFrame(), text + ";letter 0"), Check.fault(text.length() + 1, 4));
  }

  private static void begin() {
    CHECK.part("promise 4, how it begins");
    PostFrame x = Check.framed("frame 2 1 6;plan 0 0 5;letter 1");
    for (int what = 7; what <= 12; what++) due("count " + what, x.count(what), 0);
    for (int hole = 0; hole < 6; hole++) {
      due("empty", x.hole(hole, 1), 0);
      due("no BAG", x.hole(hole, 2), 0);
    }
    x.turn();
    x.tie(5);
    x.post(0);
    x.turn();
    due("behind another", Check.frame(x, "frame 2 1 6"), 0);
    for (int what = 7; what <= 12; what++) due("count " + what, x.count(what), 0);
  }

  /** The first FAULT along the text, of one place the least. */
  private static void firstFaults() {
    CHECK.part("promise 4, the first FAULT");
    due("two", Check.frame(new PostFrame(), "frame 9 9 9"), Check.fault(6, 1));
    due("a wrong NUMBER ahead of a wrong WORD", Check.frame(new PostFrame(), "frame 2 1 7;rum"), Check.fault(10, 1));
    due("a wrong WORD ahead of a wrong NUMBER", Check.frame(new PostFrame(), "frame 2 1 1;rum;room 9 9"), Check.fault(12, 0));
    due("a second frame ahead of its NUMBER", Check.frame(new PostFrame(), "frame 2 1 1;frame 9"), Check.fault(12, 4));
    due("no CLAUSE but the first", Check.frame(new PostFrame(), "plan 9 9 9;frame 2 1 1"), Check.fault(0, 4));
    due("a WORD of no CLAUSE first", Check.frame(new PostFrame(), "take 1"), Check.fault(0, 0));
    due("six digits that are in bounds", Check.frame(new PostFrame(), "frame 2 1 000001"), Check.fault(10, 1));
    due("five", Check.frame(new PostFrame(), "frame 2 1 00001"), 0);
    due("six, the first five in bounds", Check.frame(new PostFrame(), "frame 2 1 1;room 0 000010"), Check.fault(19, 1));
    CHECK.part("promise 5, the first FAULT");
    due("a wrong WORD", Check.rule(new PostFrame(), "frame 2 1 1"), Check.fault(0, 0));
    due("six digits ahead of the end", Check.rule(new PostFrame(), "take 100000+"), Check.fault(5, 1));
    due("the end", Check.rule(new PostFrame(), "take 99999+"), Check.fault(11, 0));
    due("six digits, 0", Check.rule(new PostFrame(), "take 000000"), Check.fault(5, 1));
    due("five digits, 0", Check.rule(new PostFrame(), "take 00000"), 0);
  }

  /** Bytes 399 and 400 count, none behind the end does. */
  private static void bytes() {
    CHECK.part("promise 4, 400 bytes");
    String blanks = " ".repeat(400);
    String frame = ("frame 2 1 1" + blanks).substring(0, 399);
    due("a blank at last", Check.frame(new PostFrame(), frame + " "), 0);
    due("a byte at last", Check.frame(new PostFrame(), frame + "1"), Check.fault(399, 0));
    due("the end behind the last", Check.frame(new PostFrame(), frame + ";"), Check.fault(400, 0));
    due("blanks alone", Check.frame(new PostFrame(), blanks), Check.fault(400, 0));
    PostFrame x = Check.framed(blanks.substring(0, 387) + ";frame 2 1 1".substring(1) + "  ");
    due("blanks ahead", x.count(0), 2);
    PostFrame last = Check.framed(("frame 2 1 1" + blanks).substring(0, 391) + ";letter 1");
    due("the last byte counts", last.waits(0), 1);
    CHECK.part("promise 5, 400 bytes");
    String take = ("take 1" + blanks).substring(0, 399);
    due("a blank at last", Check.rule(new PostFrame(), take + " "), 0);
    due("a byte at last", Check.rule(new PostFrame(), take + "1"), Check.fault(399, 0));
    due("the end behind the last", Check.rule(new PostFrame(), take + "+"), Check.fault(400, 0));
    due("the last byte counts", Check.rule(new PostFrame(), take.substring(0, 398) + "+1"), 0);
    CHECK.part("promises 3 to 5, bytes that were cut off");
    cut("take code", 8, 5);
    cut("take code", 3, 0);
    cut("take 1;take bags", 15, 12);
    cut("take 1 if not 1=1", 11, 10);
    cut("take 1 if not 1=1", 12, 10);
    cut("take 1 if not 1=1", 13, 13);
    PostFrame z = new PostFrame();
    Check.tape(z, "take 1 + 23456");
    z.end(10);
    due("a NUMBER cut short", z.rule(), 0);
  }

  /** A RULE of the first n bytes: the WORD that these end in can't stand there, or it is the end. */
  private static void cut(String text, int n, int place) {
    PostFrame x = new PostFrame();
    Check.tape(x, text);
    x.end(n);
    due("rule of the first " + n + " of '" + text + "'", x.rule(), Check.fault(place, 0));
  }

  // ---------------------------------------------------------------- RULES

  private static final String SIXTY = "take 1" + "+1".repeat(59);
  private static final String DEEP = "take 1 if " + "[".repeat(10) + "1=1" + "]".repeat(10);
  private static final String TWELVE = "take 1" + ";take 1".repeat(11);

  /** What is counted in one text is counted anew in the next, behind a good one and a faulty one. */
  private static void again() {
    CHECK.part("promise 5, limits count in each RULE for itself");
    String[] good = {SIXTY, DEEP, TWELVE};
    String[] bad = {SIXTY + "+1", DEEP.replace("1=1", "[1=1]"), TWELVE + ";take 1"};
    int[] faults = {Check.fault(SIXTY.length() + 1, 3), Check.fault(20, 2), Check.fault(TWELVE.length() + 1, 4)};
    for (int i = 0; i < 3; i++) {
      PostFrame x = new PostFrame();
      for (int rule = 0; rule < 6; rule++) {
        due("one too many", Check.rule(x, bad[i]), faults[i]);
        due("at most", Check.rule(x, good[i]), rule);
      }
    }
    CHECK.part("promise 4, limits count in each FRAME for itself");
    StringBuilder full = new StringBuilder("frame 4 4 6");
    for (int i = 0; i < 12; i++) full.append(";plan 2 ").append(i).append(" 0;letter ").append(i);
    PostFrame x = new PostFrame();
    for (int time = 0; time < 3; time++) {
      due("twelve of each", Check.frame(x, full.toString()), 12);
      due("wait", x.count(4), 12);
      due("a thirteenth", Check.frame(x, full + ";letter 1"), Check.fault(full.length() + 1, 4));
    }
    // beyond the limits of the text by hand: these are for the FRAME alone
    for (int i = 13; i <= 20; i++) due("post", x.post(0), i);
  }

  /** VALUES and FACTS made of a SIGN are counted together; not, brackets, and, or are not. */
  private static void parts() {
    CHECK.part("promise 5, 60 VALUES and FACTS");
    String facts = "take 1 if 1=1" + " and 1=1".repeat(18);
    due("58", Check.rule(new PostFrame(), facts), 0);
    due("60", Check.rule(new PostFrame(), facts + ";take 1;take code"), 0);
    due("a VALUE more", Check.rule(new PostFrame(), facts + ";take 1;take code+turn"), Check.fault(facts.length() + 18, 3));
    due("a SIGN more", Check.rule(new PostFrame(), facts + " or 1+1 < 1"), Check.fault(facts.length() + 8, 3));
    due("a VALUE behind a SIGN", Check.rule(new PostFrame(), facts + " or 1 >=1"), Check.fault(facts.length() + 8, 3));
    due("a not", Check.rule(new PostFrame(), facts.replace("if", "if not not [") + "];take 1;take 1"), 0);
    due("no VALUE, but a WORD", Check.rule(new PostFrame(), SIXTY + "+take"), Check.fault(SIXTY.length() + 1, 0));
    due("five digits", Check.rule(new PostFrame(), SIXTY + "+12345"), Check.fault(SIXTY.length() + 1, 3));
    due("six digits", Check.rule(new PostFrame(), SIXTY + "+123456"), Check.fault(SIXTY.length() + 1, 1));
  }

  /** How deep it is counts from where it stands; a side by side is no deeper. */
  private static void depths() {
    CHECK.part("promise 5, 10 deep");
    String nine = "take 1 if " + "[not ".repeat(4) + "[";
    due("nine and one", Check.rule(new PostFrame(), nine + "not 1=1]" + "]".repeat(4)), 0);
    due("nine and one and one", Check.rule(new PostFrame(), nine + "not 1=1 and not 1=1 or [1=1]]" + "]".repeat(4)), 0);
    due("nine and two", Check.rule(new PostFrame(), nine + "not [1=1]]" + "]".repeat(4)), Check.fault(nine.length() + 4, 2));
    due("nine and one, then two", Check.rule(new PostFrame(), nine + "[1=1] and [not 1=1]]" + "]".repeat(4)), Check.fault(nine.length() + 11, 2));
    due("behind ten that are closed", Check.rule(new PostFrame(), DEEP + " and " + "[".repeat(10) + "1=1" + "]".repeat(10)), 0);
    due("in another CLAUSE", Check.rule(new PostFrame(), DEEP + ";" + DEEP), 0);
    due("eleven, with a WORD that can't stand", Check.rule(new PostFrame(), "take 1 if " + "[".repeat(10) + "nota"), Check.fault(20, 0));
  }

  // ---------------------------------------------------------------- WORDS

  /** The second LETTER of CODE 255, behind 19 others, has all values at their greatest. */
  private static boolean holds(String test, boolean full) {
    PostFrame x = Check.framed("frame 4 4 6;room 5 20;room 4 1;plan 4 255 5;plan 0 0 4");
    for (int i = 0; i < 20; i++) {
      x.post(255);
      x.turn();
    }
    for (int i = 0; i < 5; i++) {
      x.post(0);
      x.turn();
    }
    if (!full) x.strike(1);
    for (int i = 0; i < 19; i++) x.post(0);
    x.post(255);
    due("rule of '" + test + "'", Check.rule(x, "take 1 if place = " + (full ? 19 : 0) + " and " + test), 0);
    x.force(0);
    return x.turn() >= 0;
  }

  private static void words() {
    CHECK.part("promise 10, WORDS at their last values");
    String[] most = {"place = 19", "code = 255", "first = 3", "last = 3", "hole = 5", "lying = 20", "room = 20", "fit = 4",
      "waiting = 20", "bags = 4", "turn = 25"};
    for (String word : most) {
      due(word, holds(word, true) ? 1 : 0, 1);
      due("not " + word, holds("not " + word, true) ? 1 : 0, 0);
    }
    digits("frame 4 4 1;letter 108", "first = 1 and last = 0");
    digits("frame 4 4 1;letter 177", "first = 2 and last = 1");
    digits("frame 3 2 1;letter 5", "first = 1 and last = 2");
    digits("frame 4 1 1;letter 2", "first = 2 and last = 2");
    CHECK.part("promise 10, WORDS of a LETTER that would be LOST");
    String[] least = {"place = 0", "code = 0", "first = 0", "last = 0", "hole < 0", "lying = 0", "room = 0", "fit = 0", "waiting = 20"};
    for (String word : least) {
      due(word, holds(word, false) ? 1 : 0, 1);
      due("not " + word, holds("not " + word, false) ? 1 : 0, 0);
    }
  }

  private static void digits(String frame, String test) {
    PostFrame x = Check.framed(frame);
    Check.rule(x, "take 1 if " + test);
    x.force(0);
    due(test, x.turn() >= 0 ? 1 : 0, 1);
  }

  private static void sums() {
    CHECK.part("promise 10, SUMS at their limits");
    // 2 to the power 63 goes round: the least of 64 bits
    String least = "4096*4096*4096*4096*4096*8";
    String[] so = {
      least + " < 0", least + "-1 > 0", least + "*2 = 0", least + "/7*7 = " + least + "+1", least + "%7 = 0-1", least + "/0 = 0",
      least + "%0 = 0", least + "%1 = 0", least + "/1 = " + least, "99999 = 99998+1", "0/0 = 0", "0%0 = 0", "6/7 = 0", "7/7 = 1",
      "6%7 = 6", "7%7 = 0", "00000 = 0", "99999%99998 = 1", least + "*3 < 0", least + " < 0-99999*99999*99999"
    };
    for (String test : so) due(test, holds(test, true) ? 1 : 0, 1);
    due("all SIGNS that hold", holds("1<2 and 1<=2 and 1=1 and 2>=1 and 2>1 and 1<=1 and 1>=1", true) ? 1 : 0, 1);
    String[] one = {"20-3-4-12", "20-3*4-7", "2*3+4*5-25", "100/7/2-6", "100/7*7-97", "17%5*2-3", "1+2+3-5", "1-1+1", "9-4+3-7"};
    for (String sum : one) {
      due("a SUM of 1: " + sum, taken(sum), 0);
      due("a SUM of 0: " + sum + "-1", taken(sum + "-1"), -2);
    }
  }

  private static int taken(String sum) {
    PostFrame x = Check.framed("frame 2 1 1;letter 0");
    Check.rule(x, "take " + sum);
    x.force(0);
    return x.turn();
  }

  public static void main(String[] args) {
    shapes();
    rooms();
    plans();
    letters();
    begin();
    firstFaults();
    bytes();
    again();
    parts();
    depths();
    words();
    sums();
    CHECK.end();
  }
}
