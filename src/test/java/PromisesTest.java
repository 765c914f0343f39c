/** Each promise by its number, with answers that were worked out by hand. */
public final class PromisesTest {
  private static final Check CHECK = new Check("PromisesTest");
  private static final int NONE = PostFrame.NONE;
  private static final int LOW = Integer.MIN_VALUE;
  private static final int HIGH = Integer.MAX_VALUE;

  /** CODES 0, 1 go to HOLE 0; 2, 3, 7 to HOLE 1; 4, 5, 6 are LOST. */
  private static final String SMALL = "frame 2 3 2;room 0 2;plan 1 0 0;plan 2 1 1;plan 3 7 1;"
      + "letter 0;letter 2;letter 7;letter 5;letter 1";

  private static void due(String call, long got, long want) {
    CHECK.due(call, got, want);
  }

  private static PostFrame small() {
    return Check.framed(SMALL);
  }

  /** SMALL, with a RULE IN FORCE. */
  private static PostFrame ruled(String rule) {
    PostFrame x = small();
    due("rule of '" + rule + "'", Check.rule(x, rule), 0);
    x.force(0);
    return x;
  }

  private static void newObject() {
    CHECK.part("promise 1, a new object");
    PostFrame x = new PostFrame();
    due("NONE", PostFrame.NONE, -1);
    for (int what = 0; what <= 14; what++) due("count " + what, x.count(what), what == 6 ? NONE : 0);
    due("hole", x.hole(0, 0), NONE);
    due("entry", x.entry(0, 0), NONE);
    due("waits", x.waits(0), NONE);
    due("turn", x.turn(), NONE);
    due("post", x.post(0), NONE);
    due("tie", x.tie(0), NONE);
    due("enter", x.enter(0, 0, 0), NONE);
    due("strike", x.strike(0), NONE);
    due("undo", x.undo(), NONE);
    due("where", x.where(0, 0), NONE);
    due("may", x.may(0), NONE);
    due("read", x.read(0, 0), NONE);
    due("codes", x.codes(NONE, 0), -3);
    due("slips", x.slips(0), NONE);
    due("worst", x.worst(0), NONE);
    due("idle", x.idle(), NONE);
    due("least", x.least(), NONE);
    due("one", x.one(0), -2);
    due("change", x.change(0), -2);
    due("ahead", x.ahead(0, 0, 1), NONE);
    due("sorted", x.sorted(), NONE);
    due("tied", x.tied(0), NONE);
    due("enough", x.enough(0, 1), NONE);
    due("said", x.said(0, 0), NONE);
    due("sent", x.sent(0), NONE);
    due("pence", x.pence(1, 0), NONE);
    due("note", x.note(0, 0, 0), -2);
    due("note of none", x.note(NONE, 0, 0), 0);
    due("ruled", x.ruled(0), -3);
    due("look", x.look(0, 0), NONE);
    due("posts", x.posts(1, 1, 0, 0), NONE);
    due("back", x.back(0), NONE);
    due("force", x.force(0), -2);
    due("force of none", x.force(NONE), NONE);
  }

  private static void feed() {
    CHECK.part("promise 2, feed");
    PostFrame x = new PostFrame();
    for (int i = 1; i <= 20; i++) due("feed " + i, x.feed(0x20202020, 0, 0, 0, 0), 20 * i);
    due("feed beyond", x.feed(0, 0, 0, 0, 0), NONE);
    due("bytes", x.count(14), 400);
    due("end", x.end(381), 381);
    due("feed beyond", x.feed(0, 0, 0, 0, 0), NONE);
    due("bytes", x.count(14), 381);
    due("end", x.end(380), 380);
    due("feed to the last byte", x.feed(0, 0, 0, 0, 0), 400);
    x.end(0);
    // "frame 3 4 5" and a blank, byte for byte
    due("feed", x.feed(0x6672616d, 0x65203320, 0x34203520, 0x20202020, 0x20202020), 20);
    due("frame", x.frame(), 0);
    due("RADIX", x.count(0), 3);
    due("LONG", x.count(1), 4);
    due("HOLES", x.count(2), 5);
    due("feed of a high byte", x.feed(0x6672616d, 0xe5203320, 0x34203520, 0x20202020, 0x20202020), 20);
    due("frame", x.frame(), Check.fault(0, 0));
  }

  private static void end() {
    CHECK.part("promise 3, end");
    PostFrame x = new PostFrame();
    due("end", x.end(0), 0);
    due("end", x.end(1), NONE);
    x.feed(0x6672616d, 0x65203220, 0x31203100, 0, 0);
    due("end", x.end(-1), NONE);
    due("end", x.end(21), NONE);
    due("end", x.end(HIGH), NONE);
    due("end", x.end(LOW), NONE);
    due("bytes", x.count(14), 20);
    due("end", x.end(20), 20);
    due("end", x.end(11), 11);
    due("bytes", x.count(14), 11);
    due("end", x.end(12), NONE);
    due("frame", x.frame(), 0);
  }

  private static void frame() {
    CHECK.part("promise 4, frame");
    PostFrame x = small();
    Check.rule(x, "take 1");
    x.force(0);
    x.seed(77);
    x.turn();
    x.note(1, 0, 1);
    due("a faulty frame", Check.frame(x, "frame 2 3 9"), Check.fault(10, 1));
    due("HOLES", x.count(2), 2);
    due("TURN", x.count(7), 1);
    due("NOTES", x.count(11), 1);
    due("ACTS", x.count(12), 1);
    due("bytes", x.count(14), 0);
    due("a new frame", Check.frame(x, "frame 3 2 4;plan 1 2 3;plan 0 0 1;plan 1 2 2;room 3 7;room 3 6;letter 8;plan 2 8 0"), 3);
    int[] counts = {3, 2, 4, 3, 1, 1, 0, 0, 0, 0, 0, 0, 0, 77, 0};
    for (int what = 0; what < counts.length; what++) due("count " + what, x.count(what), counts[what]);
    due("undo", x.undo(), NONE);
    due("HOLE of an entry told twice", x.entry(0, 2), 2);
    due("ROOM told twice", x.hole(3, 0), 6);
    due("ROOM not told", x.hole(0, 0), 5);
    due("the letter", x.waits(0), 8);
  }

  private static void rule() {
    CHECK.part("promise 5, rule");
    PostFrame x = new PostFrame();
    for (int i = 0; i < 6; i++) {
      due("rule", Check.rule(x, "take " + i), i);
      due("bytes", x.count(14), 0);
      if (i == 2) {
        due("a faulty rule", Check.rule(x, "take"), Check.fault(4, 0));
        due("bytes", x.count(14), 0);
      }
    }
    due("a seventh", Check.rule(x, "take 1"), NONE);
    due("bytes", x.count(14), 6);
    due("a faulty seventh", Check.rule(x, "tak"), NONE);
    due("RULES", x.count(5), 6);
  }

  private static void force() {
    CHECK.part("promise 6, force");
    PostFrame x = new PostFrame();
    Check.rule(x, "take 1");
    Check.rule(x, "take code");
    due("force", x.force(1), NONE);
    due("force", x.force(0), 1);
    due("force", x.force(2), -2);
    due("force", x.force(-2), -2);
    due("force", x.force(HIGH), -2);
    due("in force", x.count(6), 0);
    due("force", x.force(NONE), 0);
    due("in force", x.count(6), NONE);
    due("force", x.force(NONE), NONE);
  }

  private static void hole() {
    CHECK.part("promise 7, hole");
    PostFrame x = small();
    x.post(1);
    due("ROOM", x.hole(0, 0), 2);
    due("ROOM", x.hole(1, 0), 5);
    due("LETTERS", x.hole(0, 1), 0);
    for (int i = 0; i < 5; i++) x.turn();
    due("LETTERS", x.hole(0, 1), 2);
    due("LETTERS", x.hole(1, 1), 2);
    due("BAGS", x.hole(0, 2), 0);
    x.turn();
    due("LETTERS", x.hole(0, 1), 1);
    due("BAGS", x.hole(0, 2), 1);
    due("BAGS", x.hole(1, 2), 0);
    int[][] wrong = {{-1, 0}, {2, 0}, {0, -1}, {0, 3}, {LOW, LOW}, {HIGH, HIGH}};
    for (int[] w : wrong) due("hole " + w[0] + " " + w[1], x.hole(w[0], w[1]), NONE);
  }

  private static void entry() {
    CHECK.part("promise 8, entry");
    PostFrame x = small();
    int[][] entries = {{1, 0, 0}, {2, 1, 1}, {3, 7, 1}};
    for (int e = 0; e < 3; e++) {
      for (int what = 0; what < 3; what++) due("entry " + e + " " + what, x.entry(e, what), entries[e][what]);
    }
    int[][] wrong = {{-1, 0}, {3, 0}, {0, -1}, {0, 3}, {LOW, LOW}, {HIGH, HIGH}};
    for (int[] w : wrong) due("entry " + w[0] + " " + w[1], x.entry(w[0], w[1]), NONE);
  }

  private static void waits() {
    CHECK.part("promise 9, waits");
    PostFrame x = small();
    int[] row = {0, 2, 7, 5, 1};
    for (int i = 0; i < 5; i++) due("waits " + i, x.waits(i), row[i]);
    due("waits", x.waits(5), NONE);
    due("waits", x.waits(-1), NONE);
    due("waits", x.waits(HIGH), NONE);
    x.turn();
    due("waits", x.waits(0), 2);
    due("waits", x.waits(4), NONE);
  }

  private static void turn() {
    CHECK.part("promise 10, turn");
    PostFrame x = small();
    int[] taken = {0, 2, 7, 5, 1, -2, -2};
    for (int i = 0; i < taken.length; i++) {
      due("turn " + i, x.turn(), taken[i]);
      due("TURN", x.count(7), i + 1);
      due("LOST", x.count(10), i < 3 ? 0 : 1);
    }
    taken(ruled("take code"), 7, 5, 2, 1, -2);
    taken(ruled("take place"), 1, 5, 7, 2, -2);
    taken(ruled("take 1"), 0, 2, 7, 5, 1);
    taken(ruled("take 0"), -2, -2);
    taken(ruled("take 0 - code"), -2);
    taken(ruled("take 3 - code"), 0, 1, 2, -2);
    taken(ruled("take 9 if code = 5;take 2 if last = 1;take 1"), 5, 7, 1, 0, 2, -2);
    taken(ruled("take 0 if code = 5;take 2 if last = 1"), 7, 1, -2);
    taken(ruled("take 1 if turn = 2"), -2, -2, 0, -2);
    taken(ruled("take 1 if hole < 0"), 5, -2);
    taken(ruled("take waiting % 2"), 0, -2);
  }

  private static void taken(PostFrame x, int... codes) {
    for (int code : codes) due("turn", x.turn(), code);
  }

  /** Behind two TURNS of SMALL and a BAG of HOLE 1: 7, 5 and 1 wait, one lies in HOLE 0. */
  private static boolean holds(String test) {
    PostFrame x = small();
    x.turn();
    x.turn();
    x.tie(1);
    x.post(6);
    Check.rule(x, "take 1 if " + test);
    x.force(0);
    return x.turn() != -2;
  }

  private static void word(String word, int place, int value) {
    String at = "place = " + place + " and " + word;
    due(at + " = " + value, holds(at + " = " + value) ? 1 : 0, 1);
    due(at + " > " + value, holds(at + " > " + value) ? 1 : 0, 0);
    due("0 - " + at + " > 0 - " + value, holds("place = " + place + " and 0 - " + word + " > 0 - " + value) ? 1 : 0, 0);
  }

  private static void words() {
    CHECK.part("promise 10, WORDS of RULES");
    String[] words = {"place", "code", "first", "last", "lying", "room", "fit", "hole", "waiting", "bags", "turn"};
    int[][] values = {
      {0, 7, 1, 1, 0, 5, 3, 1, 4, 1, 2}, {2, 1, 0, 1, 1, 2, 1, 0, 4, 1, 2}, {3, 6, 1, 0, 0, 0, 0, -1, 4, 1, 2}
    };
    for (int[] v : values) {
      for (int i = 0; i < words.length; i++) {
        if (v[i] >= 0) word(words[i], v[0], v[i]);
      }
    }
    due("hole of a lost one", holds("place = 3 and hole < 0") ? 1 : 0, 1);
    due("hole of one", holds("place = 0 and hole < 0") ? 1 : 0, 0);
  }

  private static void sums() {
    CHECK.part("promise 10, SUMS and TESTS of RULES");
    String[] so = {
      "2 + 3 * 4 = 14", "20 - 3 - 4 = 13", "100 / 7 / 2 = 7", "100 / 7 * 7 = 98", "17 % 5 * 2 = 4", "2 * 3 + 4 * 5 - 6 = 20",
      "0 - 7 / 2 = 0 - 3", "3 - 10 < 0", "7 / 0 = 0", "7 % 0 = 0", "0 - 7 % 3 = 0 - 1", "1 + 10 / 0 - 3 = 0 - 2",
      "99999 * 99999 = 99998 * 99999 + 99999", "1 <= 1", "1 >= 1", "2 > 1", "1 < 2",
      "1 = 1 or 1 = 2 and 1 = 3", "not 1 = 2", "not not 1 = 1", "not 1 = 2 and 1 = 1", "[1 = 2 or 1 = 1] and 2 = 2",
      "not [1 = 1 and 1 = 2]", "1 = 2 or 1 = 3 or 1 = 1", "1=2 and 1=1 or 2=2 and 3=3", "01 = 1",
      // 99999 * 99999 * 99999 * 99999 goes round in 64 bits
      "99999 * 99999 * 99999 * 99999 / 99999 / 99999 = 77624 * 10000 + 3493",
      "4096 * 4096 * 4096 * 4096 * 4096 * 8 < 0", "4096 * 4096 * 4096 * 4096 * 4096 * 16 = 0",
      "4096 * 4096 * 4096 * 4096 * 4096 * 8 - 1 > 0"
    };
    String[] not = {
      "2 + 3 * 4 = 20", "1 < 1", "1 > 1", "2 <= 1", "1 >= 2", "1 = 2", "not 1 = 1", "not 1 = 1 and 1 = 2",
      "[1 = 1 or 1 = 1] and 1 = 2", "not not 1 = 2", "not 1 = 1 or 1 = 2", "1 = 1 and 1 = 2 or 1 = 3"
    };
    for (String test : so) due(test, holds(test) ? 1 : 0, 1);
    for (String test : not) due(test, holds(test) ? 1 : 0, 0);
  }

  private static void post() {
    CHECK.part("promise 11, post");
    PostFrame x = small();
    due("post", x.post(8), NONE);
    due("post", x.post(-1), NONE);
    due("post", x.post(HIGH), NONE);
    due("ACTS", x.count(12), 0);
    for (int i = 6; i <= 20; i++) due("post", x.post(i % 8), i);
    due("the last", x.waits(19), 4);
    due("post beyond 20", x.post(0), NONE);
    due("ACTS", x.count(12), 15);
    x.turn();
    due("post", x.post(7), 20);
    due("the last", x.waits(19), 7);
    due("in front", x.waits(0), 2);
  }

  private static void tie() {
    CHECK.part("promise 12, tie");
    PostFrame x = small();
    due("tie of an empty one", x.tie(0), NONE);
    for (int i = 0; i < 3; i++) x.turn();
    due("tie", x.tie(1), 2);
    due("LETTERS", x.hole(1, 1), 0);
    due("BAGS", x.hole(1, 2), 1);
    due("tie again", x.tie(1), NONE);
    due("tie", x.tie(2), NONE);
    due("tie", x.tie(-1), NONE);
    due("BAGS of all", x.count(9), 1);
    due("LETTERS in all", x.count(8), 1);
    due("ACTS", x.count(12), 4);
    due("TURN", x.count(7), 3);
    due("tie", x.tie(0), 1);
    due("BAGS of all", x.count(9), 2);
  }

  private static void enter() {
    CHECK.part("promise 13, enter");
    PostFrame x = small();
    due("enter", x.enter(0, 0, 1), 3);
    due("enter of one there", x.enter(2, 1, 0), 1);
    due("its HOLE", x.entry(1, 2), 0);
    due("ENTRIES", x.count(3), 4);
    due("DIGITS", x.entry(3, 0), 0);
    int[][] wrong = {{-1, 0, 0}, {4, 0, 0}, {0, 1, 0}, {1, 2, 0}, {1, -1, 0}, {1, 0, 2}, {1, 0, -1}, {3, 8, 0}, {HIGH, LOW, HIGH}};
    for (int[] w : wrong) due("enter " + w[0] + " " + w[1] + " " + w[2], x.enter(w[0], w[1], w[2]), NONE);
    due("ACTS", x.count(12), 2);
    for (int p = 0; p < 7; p++) due("enter", x.enter(3, p, 1), 4 + p);
    due("enter", x.enter(2, 0, 1), 11);
    due("a thirteenth", x.enter(2, 2, 1), NONE);
    due("one of twelve", x.enter(3, 3, 0), 7);
    due("where", x.where(3, 0), 0);
    due("ENTRIES", x.count(3), 12);
  }

  private static void strike() {
    CHECK.part("promise 14, strike");
    PostFrame x = small();
    due("strike", x.strike(3), NONE);
    due("strike", x.strike(-1), NONE);
    due("ACTS", x.count(12), 0);
    due("strike", x.strike(0), 2);
    due("DIGITS", x.entry(0, 0), 2);
    due("PREFIX", x.entry(0, 1), 1);
    due("HOLE", x.entry(0, 2), 1);
    due("PREFIX", x.entry(1, 1), 7);
    due("entry", x.entry(2, 0), NONE);
    due("where", x.where(0, 0), -2);
    due("strike", x.strike(1), 1);
    due("strike", x.strike(0), 0);
    due("strike", x.strike(0), NONE);
    due("ENTRIES", x.count(3), 0);
  }

  private static void undo() {
    CHECK.part("promise 15, undo");
    PostFrame x = small();
    x.turn();
    x.post(6);
    x.tie(0);
    x.enter(0, 0, 1);
    x.enter(1, 0, 1);
    x.strike(1);
    Check.rule(x, "take code");
    x.force(0);
    x.seed(5);
    x.note(0, 0, 0);
    due("undo of strike", x.undo(), 5);
    due("PREFIX", x.entry(1, 1), 1);
    due("undo of enter", x.undo(), 4);
    due("HOLE", x.entry(0, 2), 0);
    due("undo of enter", x.undo(), 3);
    due("ENTRIES", x.count(3), 3);
    due("undo of tie", x.undo(), 2);
    due("LETTERS", x.hole(0, 1), 1);
    due("BAGS", x.hole(0, 2), 0);
    due("undo of post", x.undo(), 1);
    due("wait", x.count(4), 4);
    due("undo of turn", x.undo(), 0);
    due("TURN", x.count(7), 0);
    due("in front", x.waits(0), 0);
    due("LETTERS", x.hole(0, 1), 0);
    due("undo", x.undo(), NONE);
    due("in force", x.count(6), 0);
    due("x", x.count(13), 5);
    due("NOTES", x.count(11), 1);
    for (int i = 0; i < 25; i++) x.turn();
    due("ACTS", x.count(12), 20);
    for (int i = 19; i >= 0; i--) due("undo", x.undo(), i);
    due("undo", x.undo(), NONE);
    due("TURN", x.count(7), 5);
    x.turn();
    due("undo", x.undo(), 0);
    due("TURN", x.count(7), 5);
  }

  private static void where() {
    CHECK.part("promise 16, where");
    PostFrame x = small();
    int[] holes = {0, 0, 1, 1, -2, -2, -2, 1};
    int[] digits = {1, 1, 2, 2, -2, -2, -2, 3};
    for (int code = 0; code < 8; code++) {
      due("where " + code, x.where(code, 0), holes[code]);
      due("by " + code, x.where(code, 1), digits[code]);
    }
    int[][] wrong = {{-1, 0}, {8, 0}, {0, -1}, {0, 2}, {4, 2}, {LOW, LOW}};
    for (int[] w : wrong) due("where " + w[0] + " " + w[1], x.where(w[0], w[1]), NONE);
    x.enter(0, 0, 1);
    due("where by no digit", x.where(4, 0), 1);
    due("by no digit", x.where(4, 1), 0);
  }

  private static void may() {
    CHECK.part("promise 17, may");
    PostFrame x = small();
    int[][] readings = {{999, 67}, {9, 1}, {99, 3}, {199, 66}, {119, 66}, {11, 2}, {0, 1}, {109, 64}, {919, 66}, {911, 2}};
    for (int[] r : readings) due("may " + r[0], x.may(r[0]), r[1]);
    for (int wrong : new int[] {2, 8, 20, 200, 1000, 9999, -1, -9, HIGH, LOW}) due("may " + wrong, x.may(wrong), NONE);
    due("no act", x.count(12), 0);
  }

  private static void read() {
    CHECK.part("promise 18, read");
    PostFrame x = small();
    int[][] readings = {
      {999, 3, 7}, {99, 1, 2}, {9, 0, 0}, {199, 2, 6}, {919, 2, 5}, {991, 2, 3}, {911, 0, 0}, {0, 0, 0}, {119, 1, 4}, {990, 2, 3}
    };
    for (int[] r : readings) {
      due("how many of " + r[0], x.read(r[0], 0), r[1]);
      due("the set of " + r[0], x.read(r[0], 1), r[2]);
    }
    for (int wrong : new int[] {2, 1000, -1, HIGH}) due("read " + wrong, x.read(wrong, 0), NONE);
    due("read", x.read(999, 2), NONE);
    due("read", x.read(999, -1), NONE);
    // HOLES by whether the digits are alike: one alone tells nothing, so no single one is named
    PostFrame y = Check.framed("frame 2 2 2;plan 2 0 0;plan 2 3 0;plan 2 1 1;plan 2 2 1");
    due("how many", y.read(99, 0), 2);
    due("the set", y.read(99, 1), 3);
    due("the other one", y.read(19, 1), 2);
    // lost by the last digit alone
    PostFrame z = Check.framed("frame 2 2 1;plan 2 0 0;plan 2 2 0");
    due("how many", z.read(99, 0), 1);
    due("the set", z.read(99, 1), 2);
  }

  private static void codes() {
    CHECK.part("promise 19, codes");
    PostFrame x = small();
    int[][] holes = {{0, 2, 0}, {1, 3, 2}, {NONE, 3, 4}};
    for (int[] h : holes) {
      due("how many of " + h[0], x.codes(h[0], 0), h[1]);
      due("the least of " + h[0], x.codes(h[0], 1), h[2]);
    }
    int[][] wrong = {{2, 0}, {-2, 0}, {0, 2}, {0, -1}, {NONE, 2}, {HIGH, HIGH}};
    for (int[] w : wrong) due("codes " + w[0] + " " + w[1], x.codes(w[0], w[1]), -3);
    x.enter(1, 1, 0);
    due("how many are lost", x.codes(NONE, 0), 0);
    due("the least", x.codes(NONE, 1), -2);
  }

  private static void slips() {
    CHECK.part("promises 20 and 21, slips and worst");
    PostFrame x = small();
    int[] slips = {2, 2, 2, 1, 1, 2, 2, 2};
    for (int code = 0; code < 8; code++) due("slips " + code, x.slips(code), slips[code]);
    for (int wrong : new int[] {-1, 8, LOW}) due("slips " + wrong, x.slips(wrong), NONE);
    due("worst", x.worst(0), 0);
    due("its slips", x.worst(1), 2);
    due("worst", x.worst(2), NONE);
    due("worst", x.worst(-1), NONE);
    x.enter(3, 4, 0);
    // 4 goes to 0 now, of its slips 5, 6 are lost; of those of 6 now 4 and 7 and 2 go elsewhere
    due("slips", x.slips(4), 2);
    due("slips", x.slips(6), 3);
    due("worst", x.worst(0), 5);
    due("its slips", x.worst(1), 3);
    PostFrame y = Check.framed("frame 4 1 3;plan 1 0 0;plan 1 1 1;plan 1 2 1");
    due("of four digits", y.slips(0), 3);
    due("of four digits", y.slips(1), 2);
    due("a lost one", y.slips(3), 3);
  }

  private static void idle() {
    CHECK.part("promise 22, idle");
    PostFrame x = small();
    due("idle", x.idle(), 0);
    x.enter(3, 2, 0);
    due("idle", x.idle(), 0);
    x.enter(3, 3, 1);
    due("idle", x.idle(), 2);
    x.enter(2, 0, 0);
    due("idle", x.idle(), 3);
    x.strike(0);
    due("idle", x.idle(), 1);
    due("without entries", Check.framed("frame 2 1 1").idle(), 0);
  }

  private static int leastOf(String text) {
    return Check.framed(text).least();
  }

  private static void least() {
    CHECK.part("promise 23, least");
    due("least", small().least(), 3);
    due("least of none", leastOf("frame 2 2 2"), 0);
    due("one for all", leastOf("frame 2 2 2;plan 2 0 1;plan 2 1 1;plan 2 2 1;plan 2 3 1"), 1);
    due("one and one beside it", leastOf("frame 2 2 2;plan 2 0 0;plan 2 1 0;plan 2 2 0;plan 2 3 1"), 2);
    due("none over a lost one", leastOf("frame 2 2 2;plan 2 0 0;plan 2 1 0;plan 2 2 0"), 2);
    due("none over lost ones, of all holes", leastOf("frame 4 2 6;plan 1 0 0;plan 1 1 0;plan 1 2 0"), 3);
    due("an idle one", leastOf("frame 2 2 2;plan 0 0 0;plan 1 0 0;plan 2 0 0"), 1);
    due("what is most often", leastOf("frame 3 1 3;plan 1 0 2;plan 1 1 1;plan 1 2 1"), 2);
    due("two by two", leastOf("frame 2 2 2;plan 2 0 0;plan 2 1 1;plan 2 2 0;plan 2 3 1"), 3);
  }

  private static void one() {
    CHECK.part("promise 24, one");
    PostFrame x = small();
    int[] best = {0, 0, 0, 0, 1};
    for (int what = 0; what < 5; what++) due("one " + what, x.one(what), best[what]);
    due("one", x.one(5), -2);
    due("one", x.one(-1), -2);
    due("nothing changes", x.count(3), 3);
    PostFrame y = Check.framed("frame 2 2 2;room 0 1;room 1 1;plan 0 0 0;letter 0;letter 3;letter 2;letter 1");
    // 0, 3, 2, 1 into one HOLE tie three; halves tie one each, none ties less
    int[] half = {0, 2, 1, 0, 1};
    for (int what = 0; what < 5; what++) due("one " + what, y.one(what), half[what]);
    PostFrame z = Check.framed("frame 2 1 1;letter 0");
    due("lost no more", z.one(0), 0);
    due("by no digit", z.one(2), 0);
    z.turn();
    due("LOST without any", z.one(0), 0);
    for (int what = 2; what < 5; what++) due("none", z.one(what), NONE);
    StringBuilder full = new StringBuilder("frame 4 4 2;letter 255");
    for (int i = 0; i < 12; i++) full.append(";plan 3 ").append(i).append(" 0");
    PostFrame w = Check.framed(full.toString());
    due("with twelve it stays lost", w.one(0), 1);
    due("none", w.one(2), NONE);
    w.post(1);
    due("none helps", w.one(2), NONE);
  }

  private static void change() {
    CHECK.part("promise 25, change");
    PostFrame x = small();
    int[] none = {0, NONE, NONE};
    for (int what = 0; what < 3; what++) due("change " + what, x.change(what), none[what]);
    x.post(1);
    int[] both = {0, 0, 1};
    for (int what = 0; what < 3; what++) due("change " + what, x.change(what), both[what]);
    due("change", x.change(3), -2);
    due("change", x.change(-1), -2);
    due("nothing changes", x.entry(0, 2), 0);
    PostFrame y = Check.framed("frame 2 1 4;room 0 1;room 1 1;room 2 3;room 3 3;plan 1 0 0;plan 1 1 1;letter 0;letter 0;letter 1;letter 1");
    int[] least = {1, 0, 2};
    for (int what = 0; what < 3; what++) due("change " + what, y.change(what), least[what]);
  }

  private static void ahead() {
    CHECK.part("promise 26, ahead");
    PostFrame x = small();
    x.post(1);
    int[][] rows = {{0, 0, 0, 6, 0, 0}, {1, 1, 0, 5, 0, 0}, {3, 1, 2, 3, 0, 0}, {5, 2, 2, 1, 0, 1}, {6, 1, 2, 0, 1, 1}, {100, 1, 2, 0, 1, 1}};
    for (int[] r : rows) {
      due("in 0 behind " + r[0], x.ahead(0, r[0], 0), r[1]);
      due("in 1 behind " + r[0], x.ahead(1, r[0], 0), r[2]);
      due("wait behind " + r[0], x.ahead(77, r[0], 1), r[3]);
      due("BAGS behind " + r[0], x.ahead(-5, r[0], 2), r[4]);
      due("LOST behind " + r[0], x.ahead(2, r[0], 3), r[5]);
    }
    int[][] wrong = {{2, 1, 0}, {-1, 1, 0}, {0, -1, 0}, {0, 101, 0}, {0, -1, 1}, {0, 101, 3}, {0, 1, -1}, {0, 1, 4}, {HIGH, HIGH, HIGH}};
    for (int[] w : wrong) due("ahead " + w[0] + " " + w[1] + " " + w[2], x.ahead(w[0], w[1], w[2]), NONE);
    due("nothing changes", x.count(7), 0);
    PostFrame y = ruled("take code");
    due("by the rule", y.ahead(1, 1, 0), 1);
    due("by the rule", y.ahead(0, 100, 0), 1);
    due("by the rule", y.ahead(0, 100, 1), 1);
  }

  private static void sorted() {
    CHECK.part("promises 27 and 28, sorted and tied");
    PostFrame x = small();
    due("sorted", x.sorted(), 4);
    due("tied", x.tied(0), -2);
    x.post(1);
    due("sorted", x.sorted(), 5);
    due("tied", x.tied(0), 5);
    due("tied", x.tied(1), -2);
    due("tied", x.tied(2), NONE);
    due("tied", x.tied(-1), NONE);
    for (int i = 0; i < 5; i++) {
      x.turn();
      due("the same TURN from one later on", x.sorted(), 5);
      due("the same TURN from one later on", x.tied(0), 5);
    }
    x.turn();
    due("sorted, if none waits", x.sorted(), 6);
    due("tied", x.tied(0), -2);
    due("never sorted", ruled("take code").sorted(), -2);
    due("late", ruled("take 1 if turn > 194").sorted(), 199);
    due("too late", ruled("take 1 if turn > 195").sorted(), -2);
    PostFrame y = Check.framed("frame 2 1 1;room 0 1;plan 0 0 0;letter 0;letter 0");
    Check.rule(y, "take 1 if turn = 0 or turn >= 199");
    y.force(0);
    due("tied in the last", y.tied(0), 199);
    Check.rule(y, "take 1 if turn = 0 or turn >= 200");
    y.force(1);
    due("tied behind the last", y.tied(0), -2);
    y.turn();
    due("one TURN later it is in sight", y.tied(0), 200);
    due("and sorted", y.sorted(), 200);
    due("none waits and it is TURN 0", Check.framed("frame 2 1 1").sorted(), 0);
  }

  private static void enough() {
    CHECK.part("promise 29, enough");
    PostFrame x = small();
    x.post(1);
    int[][] rows = {{0, 6, 3}, {0, 5, 2}, {0, 4, 1}, {1, 6, 2}, {1, 2, 1}, {0, 40, 3}, {1, 40, 2}};
    for (int[] r : rows) due("enough " + r[0] + " " + r[1], x.enough(r[0], r[1]), r[2]);
    int[][] wrong = {{2, 1}, {-1, 1}, {0, 0}, {0, 41}, {0, -1}, {HIGH, HIGH}};
    for (int[] w : wrong) due("enough " + w[0] + " " + w[1], x.enough(w[0], w[1]), NONE);
    due("the ROOM stays", x.hole(0, 0), 2);
    // two lie there, so a third LETTER ties all of 1 and 2
    for (int i = 0; i < 5; i++) x.turn();
    due("with what lies there", x.enough(0, 1), 3);
    PostFrame y = Check.framed("frame 2 1 1;room 0 20;plan 0 0 0");
    for (int i = 0; i < 20; i++) y.post(0);
    due("just enough", y.enough(0, 20), 20);
    y.turn();
    y.post(1);
    due("by none", y.enough(0, 40), -2);
    due("in fewer turns", y.enough(0, 19), 20);
  }

  private static void said() {
    CHECK.part("promise 30, said");
    PostFrame x = small();
    due("without notes", x.said(0, 0), 8);
    due("without notes", x.said(4, 1), 0);
    x.note(0, 0, 0);
    due("not into 0", x.said(0, 0), 6);
    due("not into 0", x.said(0, 1), 2);
    due("of another", x.said(1, 0), 0);
    due("of another", x.said(1, 1), -2);
    x.note(NONE, 0, 0);
    x.note(0, 0, 1);
    x.note(2, 1, 1);
    due("the first", x.said(0, 0), 0);
    due("the second", x.said(1, 0), 5);
    due("the second", x.said(1, 1), 0);
    due("the third", x.said(2, 0), 5);
    due("the fourth", x.said(3, 0), 0);
    int[][] wrong = {{5, 0}, {-1, 0}, {0, 2}, {0, -1}, {HIGH, HIGH}};
    for (int[] w : wrong) due("said " + w[0] + " " + w[1], x.said(w[0], w[1]), NONE);
    for (int i = 0; i < 5; i++) x.turn();
    x.post(0);
    x.strike(0);
    x.strike(0);
    due("as the text told it", x.said(1, 0), 5);
    due("of posted ones", x.said(5, 0), NONE);
    PostFrame y = ruled("take code + 1");
    y.note(0, 1, 1);
    due("by the rule", y.said(2, 0), 1);
    due("by the rule", y.said(2, 1), 7);
    due("by the rule", y.said(4, 0), 8);
    y.force(NONE);
    due("without it", y.said(0, 0), 3);
    due("without it", y.said(0, 1), 2);
  }

  private static void sent() {
    CHECK.part("promise 31, sent");
    PostFrame x = small();
    for (int e = 0; e < 3; e++) due("without notes", x.sent(e), 3);
    x.note(0, 0, 1);
    due("the first", x.sent(0), 1);
    due("the second", x.sent(1), 3);
    x.note(1, 1, 1);
    due("the second", x.sent(1), 2);
    due("the third", x.sent(2), 3);
    due("sent", x.sent(3), NONE);
    due("sent", x.sent(-1), NONE);
    x.enter(0, 0, 0);
    x.strike(0);
    due("as the text told it", x.sent(0), 1);
    due("of entered ones", x.sent(3), NONE);
    x.note(4, 0, 0);
    due("none", x.sent(0), 0);
    PostFrame y = ruled("take code");
    y.note(0, 0, 1);
    due("by the rule", y.sent(2), 1);
    due("by the rule", y.sent(0), 0);
  }

  private static void pence() {
    CHECK.part("promise 32, pence");
    PostFrame x = Check.framed("frame 2 2 3;plan 2 0 0;plan 2 1 1;plan 2 2 2");
    due("none tied", x.pence(100, 0), 0);
    int[][] parts = {{100, 0, 0}, {50, 50, 0}, {34, 33, 33}, {50, 25, 25}, {40, 20, 40}};
    int[] hole = {0, 1, 2, 0, 2};
    for (int i = 0; i < parts.length; i++) {
      x.post(hole[i]);
      x.turn();
      x.tie(hole[i]);
      for (int h = 0; h < 3; h++) due("pence behind bag " + i, x.pence(100, h), parts[i][h]);
    }
    // BAGS 2, 1, 2: of 1 penny 0.4, 0.2, 0.4; of 3 1.2, 0.6, 1.2; of 4 1.6, 0.8, 1.6; of 9999 3999.6, 1999.8, 3999.6
    int[][] more = {{1, 1, 0, 0}, {3, 1, 1, 1}, {4, 2, 1, 1}, {0, 0, 0, 0}, {9999, 4000, 2000, 3999}, {2, 1, 0, 1}};
    for (int[] m : more) {
      for (int h = 0; h < 3; h++) due("pence " + m[0] + " " + h, x.pence(m[0], h), m[h + 1]);
    }
    int[][] wrong = {{-1, 0}, {10000, 0}, {1, -1}, {1, 3}, {HIGH, HIGH}};
    for (int[] w : wrong) due("pence " + w[0] + " " + w[1], x.pence(w[0], w[1]), NONE);
  }

  private static void note() {
    CHECK.part("promise 33, note");
    PostFrame x = small();
    int[][] wrong = {{-2, 0, 0}, {61, 0, 0}, {0, -1, 0}, {0, 2, 0}, {0, 0, -1}, {0, 0, 21}, {HIGH, HIGH, HIGH}};
    for (int[] w : wrong) due("note " + w[0] + " " + w[1] + " " + w[2], x.note(w[0], w[1], w[2]), -2);
    due("NOTES", x.count(11), 0);
    due("note", x.note(60, 1, 20), 1);
    for (int i = 2; i <= 10; i++) due("note", x.note(0, 0, 0), i);
    due("an eleventh", x.note(0, 0, 0), -2);
    due("NOTES", x.count(11), 10);
    due("it counts", x.ruled(0), 0);
    due("none then", x.note(NONE, HIGH, LOW), 0);
    due("NOTES", x.count(11), 0);
    due("it counts no more", x.ruled(0), 1);
    due("no act", x.count(12), 0);
  }

  private static void ruledAndLook() {
    CHECK.part("promises 34 and 35, ruled and look");
    PostFrame x = small();
    Check.rule(x, "take code + 1");
    Check.rule(x, "take place + 1");
    x.force(0);
    due("how many", x.ruled(0), 3);
    due("the first", x.ruled(1), NONE);
    // behind TURN 0 1, 0, 1 lie in HOLE 0 and 0, 1, 0 in HOLE 1
    due("where to look", x.look(0, 0), 0);
    due("the most alike", x.look(0, 1), 2);
    x.note(0, 0, 1);
    due("how many", x.ruled(0), 2);
    due("the first", x.ruled(1), NONE);
    // behind TURN 1 1, 1 lie in HOLE 0 and 1, 0 in HOLE 1
    due("where to look", x.look(1, 0), 1);
    due("the most alike", x.look(1, 1), 1);
    x.note(1, 1, 0);
    due("how many", x.ruled(0), 1);
    due("the first", x.ruled(1), 1);
    due("one alone", x.look(60, 0), 0);
    due("one alone", x.look(60, 1), 1);
    x.turn();
    x.strike(0);
    due("as the text told it", x.ruled(1), 1);
    x.note(1, 1, 5);
    due("how many", x.ruled(0), 0);
    due("the first", x.ruled(1), -2);
    due("look", x.look(2, 0), -2);
    due("look", x.look(2, 1), -2);
    due("ruled", x.ruled(2), -3);
    due("ruled", x.ruled(-1), -3);
    int[][] wrong = {{-1, 0}, {61, 0}, {1, 2}, {1, -1}, {HIGH, HIGH}};
    for (int[] w : wrong) due("look " + w[0] + " " + w[1], x.look(w[0], w[1]), NONE);
    PostFrame y = small();
    Check.rule(y, "take code + 1");
    y.note(0, 1, 1);
    due("rule 0 alone", y.ruled(1), 0);
  }

  /** A NOTE of n, and a LOOK at n, see what lies there behind TURN n. */
  private static void notedTurns() {
    CHECK.part("promises 30, 31 and 33 to 35, the TURN of a NOTE");
    for (int n : new int[] {0, 1, 30, 59, 60}) {
      PostFrame y = Check.framed("frame 2 1 2;plan 0 0 0;letter 0");
      due("rule", Check.rule(y, "take 1 if turn = " + n), 0);
      due("rule", Check.rule(y, "take 1 if turn = " + (n + 1)), 1);
      y.force(0);
      // RULE 0 takes in TURN n, RULE 1 in the next one, none in TURN 0
      due("look", y.look(n, 1), 2);
      y.note(n, 0, 1);
      due("taken in that TURN", y.ruled(0), 2);
      due("not yet in the next", y.look(n, 1), 2);
      due("said", y.said(0, 0), 2);
      due("sent", y.sent(0), 1);
      y.note(NONE, 0, 0);
      y.note(n, 0, 0);
      due("not taken in that TURN", y.ruled(0), 1);
      due("not taken in that TURN", y.ruled(1), 1);
      due("said", y.said(0, 0), 0);
      due("sent", y.sent(0), 2);
      y.force(1);
      due("said", y.said(0, 0), 2);
      due("sent", y.sent(0), 3);
    }
    PostFrame none = Check.framed("frame 2 1 1;plan 0 0 0");
    none.note(0, 0, 0);
    none.note(60, 0, 0);
    due("none waits", none.ruled(0), 1);
    none.note(60, 0, 1);
    due("none waits", none.ruled(0), 0);
  }

  private static void seed() {
    CHECK.part("promise 36, seed");
    PostFrame x = new PostFrame();
    due("seed", x.seed(HIGH), 0);
    due("seed", x.seed(7), HIGH);
    due("seed", x.seed(-1), NONE);
    due("seed", x.seed(LOW), NONE);
    due("x", x.count(13), 7);
    due("seed", x.seed(0), 7);
  }

  private static void posts() {
    CHECK.part("promise 37, posts");
    PostFrame x = small();
    due("none posted", x.posts(2, 5, 0, 1), 2);
    due("none posted", x.posts(2, 5, 0, 0), 0);
    PostFrame y = Check.framed("frame 2 1 1;room 0 1;plan 0 0 0");
    due("all posted", y.posts(3, 5, 100, 0), 12);
    due("none lost", y.posts(3, 5, 100, 1), 0);
    y.strike(0);
    due("all lost", y.posts(3, 5, 100, 1), 15);
    due("most", y.posts(10, 60, 100, 1), 600);
    // DRAWS from 0 on: 0, 21468, 9988, 22117, 3498, 16927, 16045, 19741, 12122, 8410, 12261, 27052
    PostFrame z = Check.framed("frame 2 1 1;room 0 1;plan 1 0 0");
    due("0 < 39, 21468: lies", z.posts(1, 1, 39, 0), 0);
    due("0 < 39, 21468: lies", z.posts(1, 1, 39, 1), 0);
    due("0 is not below 0", z.posts(1, 60, 0, 1), 0);
    due("88 is not below 88", z.posts(1, 2, 88, 1), 0);
    due("88 < 89, 22117: lost", z.posts(1, 2, 89, 1), 1);
    due("17 < 39, 3498: a BAG", z.posts(1, 3, 39, 0), 1);
    due("none lost", z.posts(1, 3, 39, 1), 0);
    due("27 < 39, 16045: lost", z.posts(1, 4, 39, 1), 1);
    due("41 is not below 39", z.posts(1, 5, 39, 0), 1);
    due("22 < 39, 8410: a BAG more", z.posts(1, 6, 39, 0), 2);
    due("draws go on, all begins anew", z.posts(2, 2, 39, 1), 1);
    due("draws go on, all begins anew", z.posts(2, 2, 39, 0), 0);
    due("draws go on, all begins anew", z.posts(3, 1, 39, 1), 0);
    due("draws go on, all begins anew", z.posts(4, 1, 39, 1), 1);
    due("x stays", z.count(13), 0);
    due("nothing stays", z.count(7), 0);
    z.seed(1406932606);
    due("88 is not below 88", z.posts(1, 1, 88, 1), 0);
    due("88 < 89, 22117: lost", z.posts(1, 1, 89, 1), 1);
    z.seed(0);
    z.post(1);
    z.turn();
    due("with those before", z.posts(2, 2, 39, 1), 3);
    int[][] wrong = {{0, 1, 0, 0}, {11, 1, 0, 0}, {1, 0, 0, 0}, {1, 61, 0, 0}, {1, 1, -1, 0}, {1, 1, 101, 0}, {1, 1, 0, -1}, {1, 1, 0, 2}};
    for (int[] w : wrong) due("posts " + w[0] + " " + w[1] + " " + w[2] + " " + w[3], x.posts(w[0], w[1], w[2], w[3]), NONE);
    PostFrame full = Check.framed("frame 2 1 1");
    for (int i = 0; i < 19; i++) full.post(0);
    Check.rule(full, "take 1 if waiting > 20");
    full.force(0);
    due("never more than twenty", full.posts(1, 60, 100, 1), 0);
    Check.rule(full, "take 1 if waiting = 20");
    full.force(1);
    due("each one posted makes twenty", full.posts(1, 60, 100, 1), 60);
  }

  private static void count() {
    CHECK.part("promise 38, count");
    PostFrame x = small();
    Check.rule(x, "take 1");
    Check.rule(x, "take 2");
    x.force(1);
    x.post(1);
    for (int i = 0; i < 6; i++) x.turn();
    x.post(6);
    x.post(6);
    x.note(0, 0, 0);
    x.seed(44);
    x.feed(1, 2, 3, 4, 5);
    int[] counts = {2, 3, 2, 3, 2, 2, 1, 6, 3, 1, 1, 1, 9, 44, 20};
    for (int what = 0; what < counts.length; what++) due("count " + what, x.count(what), counts[what]);
    for (int wrong : new int[] {-1, 15, HIGH, LOW}) due("count " + wrong, x.count(wrong), NONE);
  }

  private static void images() {
    CHECK.part("promises 39 and 40, image and back");
    PostFrame x = small();
    due("back to one not made", x.back(0), NONE);
    x.turn();
    x.turn();
    Check.rule(x, "take code");
    x.force(0);
    x.seed(9);
    x.note(1, 0, 1);
    due("image", x.image(3), 2);
    due("ACTS stay", x.count(12), 2);
    due("image", x.image(4), NONE);
    due("image", x.image(-1), NONE);
    due("back", x.back(4), NONE);
    due("back", x.back(-1), NONE);
    due("back", x.back(2), NONE);
    x.turn();
    x.force(NONE);
    x.seed(10);
    x.note(NONE, 0, 0);
    Check.rule(x, "take 1");
    Check.frame(x, "frame 3 2 4;letter 8");
    x.turn();
    due("image of another", x.image(0), 1);
    x.feed(0, 0, 0, 0, 0);
    due("back", x.back(3), 2);
    int[] counts = {2, 3, 2, 3, 3, 2, 0, 2, 2, 0, 0, 1, 0, 9, 20};
    for (int what = 0; what < counts.length; what++) due("count " + what, x.count(what), counts[what]);
    due("in front", x.waits(0), 7);
    due("undo", x.undo(), NONE);
    x.force(NONE);
    due("the text that told it", x.said(0, 0), 2);
    x.force(0);
    due("turn", x.turn(), 7);
    due("back again", x.back(3), 2);
    due("in front", x.waits(0), 7);
    due("back to another", x.back(0), 1);
    due("RADIX", x.count(0), 3);
    due("LOST", x.count(10), 1);
    due("in force", x.count(6), NONE);
    PostFrame y = new PostFrame();
    due("image without a frame", y.image(1), 0);
    Check.frame(y, SMALL);
    due("back to no frame", y.back(1), 0);
    due("turn", y.turn(), NONE);
    due("HOLES", y.count(2), 0);
  }

  public static void main(String[] args) {
    newObject();
    feed();
    end();
    frame();
    rule();
    force();
    hole();
    entry();
    waits();
    turn();
    words();
    sums();
    post();
    tie();
    enter();
    strike();
    undo();
    where();
    may();
    read();
    codes();
    slips();
    idle();
    least();
    one();
    change();
    ahead();
    sorted();
    enough();
    said();
    sent();
    pence();
    note();
    ruledAndLook();
    notedTurns();
    seed();
    posts();
    count();
    images();
    CHECK.end();
  }
}
