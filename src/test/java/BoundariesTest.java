import java.util.function.Supplier;
import java.util.function.ToIntFunction;

/**
 * Promises 1 to 40, each by its number: every sentence that names a boundary, on both of its sides;
 * nothing there yet, and all places taken; what is refused changes nothing.
 */
public final class BoundariesTest {
  private static final Check CHECK = new Check("BoundariesTest");
  private static final int NONE = PostFrame.NONE;
  private static final int LOW = Integer.MIN_VALUE;
  private static final int HIGH = Integer.MAX_VALUE;
  private static final int[] FAR = {LOW, -2, HIGH};

  private static void promise(int number, String name) {
    CHECK.part("promise " + number + ", " + name);
  }

  private static void due(String call, long got, long want) {
    CHECK.due(call, got, want);
  }

  /** Answers so on all three kinds of object, and changes nothing there. */
  private static void refusedBy(String call, ToIntFunction<PostFrame> act, int want) {
    same(call + " of a new object", PostFrame::new, act, want);
    same(call + " of one in use", Twins::rich, act, want);
    same(call + " of a full one", Twins::full, act, want);
  }

  private static void same(String call, Supplier<PostFrame> maker, ToIntFunction<PostFrame> act, int want) {
    Twins.unchanged(CHECK, call, maker, act, want);
  }

  private static PostFrame framed(String text) {
    return Check.framed(text);
  }

  /** Framed, with one RULE, which is IN FORCE. */
  private static PostFrame ruled(String text, String rule) {
    PostFrame x = Check.framed(text);
    due("rule of '" + rule + "'", Check.rule(x, rule), 0);
    x.force(0);
    return x;
  }

  private static int power(int base, int exponent) {
    int p = 1;
    for (int i = 0; i < exponent; i++) p *= base;
    return p;
  }

  private interface Shape {
    void of(int radix, int length, int codes);
  }

  private static void eachShape(Shape shape) {
    for (int radix = 2; radix <= 4; radix++) {
      for (int length = 1; length <= 4; length++) shape.of(radix, length, power(radix, length));
    }
  }

  private static PostFrame shaped(int radix, int length, int holes) {
    return framed("frame " + radix + " " + length + " " + holes);
  }

  /** Twelve ENTRIES, 4 digits each, of the CODES 0, 4, 8 .. 44 alone, all to HOLE 0. */
  private static PostFrame twelve(int holes) {
    PostFrame x = framed("frame 4 4 " + holes + ";room 0 1");
    for (int i = 0; i < 12; i++) due("enter", x.enter(4, 4 * i, 0), i);
    return x;
  }

  // ---------------------------------------------------------------- 1 to 6, what is told

  private static void p1() {
    promise(1, "a new object");
    PostFrame x = new PostFrame();
    for (int what = 0; what < 15; what++) due("count " + what, x.count(what), what == 6 ? NONE : 0);
    same("force(0)", PostFrame::new, y -> y.force(0), -2);
    same("force(NONE)", PostFrame::new, y -> y.force(NONE), NONE);
    same("turn()", PostFrame::new, PostFrame::turn, NONE);
    same("undo()", PostFrame::new, PostFrame::undo, NONE);
    same("strike(0)", PostFrame::new, y -> y.strike(0), NONE);
    same("frame()", PostFrame::new, PostFrame::frame, Check.fault(0, 0));
    same("rule()", PostFrame::new, PostFrame::rule, Check.fault(0, 0));
    same("end(0)", PostFrame::new, y -> y.end(0), 0);
    for (int k = 0; k < 4; k++) {
      int image = k;
      same("back(" + k + ")", PostFrame::new, y -> y.back(image), NONE);
    }
  }

  private static void p2() {
    promise(2, "feed");
    PostFrame x = new PostFrame();
    for (int i = 1; i <= 20; i++) due("feed", x.feed(0, 0, 0, 0, 0), 20 * i);
    due("feed at 400", x.feed(1, 1, 1, 1, 1), NONE);
    due("bytes", x.count(14), 400);
    for (int n : new int[] {399, 390, 381}) {
      due("end", x.end(n), n);
      due("feed at " + n, x.feed(1, 1, 1, 1, 1), NONE);
      due("bytes", x.count(14), n);
    }
    due("end", x.end(380), 380);
    due("feed at 380", x.feed(0, 0, 0, 0, 0), 400);
    same("feed at 400", Twins::full, y -> y.feed(LOW, HIGH, -1, 0, 1), NONE);
    same("feed at 381", () -> cut(Twins.full(), 381), y -> y.feed(LOW, HIGH, -1, 0, 1), NONE);
    // a stray byte among blanks tells by the FAULT where it came to stand
    for (int at = 0; at < 20; at++) {
      for (int sign : new int[] {0, 1, 127, 128, 255}) {
        int[] n = new int[5];
        for (int i = 0; i < 20; i++) n[i / 4] = n[i / 4] << 8 | (i == at ? sign : ' ');
        PostFrame y = new PostFrame();
        for (int i = 0; i < 19; i++) y.feed(0x20202020, 0x20202020, 0x20202020, 0x20202020, 0x20202020);
        due("feed", y.feed(n[0], n[1], n[2], n[3], n[4]), 400);
        due("the byte " + sign + " of place " + at, y.frame(), Check.fault(380 + at, 0));
      }
    }
  }

  private static PostFrame cut(PostFrame x, int n) {
    due("end", x.end(n), n);
    return x;
  }

  private static void p3() {
    promise(3, "end");
    for (int n : new int[] {-1, LOW, 1, HIGH}) same("end " + n, PostFrame::new, y -> y.end(n), NONE);
    for (int n : new int[] {-1, LOW, 401, HIGH}) same("end " + n, Twins::full, y -> y.end(n), NONE);
    same("end of all", Twins::full, y -> y.end(400), 400);
    int bytes = Twins.rich().count(14);
    for (int n : new int[] {-1, bytes + 1}) same("end " + n, Twins::rich, y -> y.end(n), NONE);
    same("end of all", Twins::rich, y -> y.end(bytes), bytes);
    PostFrame x = new PostFrame();
    Check.tape(x, "frame 3 2 1;letter 88");
    due("end", x.end(20), 20);
    due("a byte that was cut off", x.end(21), NONE);
    due("frame of the first n", x.frame(), 0);
    due("its LETTER", x.waits(0), 8);
    Check.tape(x, "frame 3 2 4;");
    due("end", x.end(11), 11);
    x.feed(0x20202020, 0x20202020, 0x20202020, 0x20202020, 0x2020203b);
    due("the next ones come behind these", x.frame(), Check.fault(31, 0));
    Check.tape(x, "frame 4 4 4");
    due("end", x.end(0), 0);
    due("nothing is left", x.frame(), Check.fault(0, 0));
  }

  private static void p4() {
    promise(4, "frame");
    due("without ENTRIES", Check.frame(new PostFrame(), "frame 2 1 1"), 0);
    due("ENTRIES told", Check.frame(new PostFrame(), "frame 2 1 1;plan 0 0 0"), 1);
    StringBuilder plan = new StringBuilder("frame 4 4 6");
    for (int i = 0; i < 12; i++) plan.append(";plan 4 ").append(255 - i).append(' ').append(i % 6);
    due("twelve", Check.frame(new PostFrame(), plan.toString()), 12);
    // behind a FAULT all stays, but for the TAPE, which is empty: so it is emptied in both alike
    for (String text : new String[] {"", " ", "frame", "frame 2 3 9", "frame 2 3 2;", "frame 4 4 6;plan 4 256 0", "take 1"}) {
      int want = Check.frame(new PostFrame(), text);
      due("'" + text + "' has a FAULT", want <= -3 ? 1 : 0, 1);
      same("frame of '" + text + "'", () -> cut(Twins.rich(), 0), y -> Check.frame(y, text), want);
      same("frame of '" + text + "'", () -> cut(Twins.full(), 0), y -> Check.frame(y, text), want);
      same("frame of '" + text + "'", PostFrame::new, y -> Check.frame(y, text), want);
    }
    PostFrame x = Twins.full();
    due("frame", x.frame(), 1);
    int[] counts = {4, 4, 6, 1, 1, 6, 5, 0, 0, 0, 0, 0, 0, HIGH, 0};
    for (int what = 0; what < 15; what++) due("count " + what, x.count(what), counts[what]);
    due("nothing to be UNDONE", x.undo(), NONE);
    due("no NOTES", x.ruled(0), 7);
    due("ROOM anew", x.hole(0, 0), 5);
    due("ROOM anew", x.hole(1, 0), 5);
    due("HOLES are empty", x.tie(1), NONE);
    due("an IMAGE of before stays", x.back(3) >= 0 ? 1 : 0, 1);
    due("its ENTRIES", x.count(3), 12);
  }

  private static void p5() {
    promise(5, "rule");
    PostFrame x = new PostFrame();
    for (int i = 0; i < 6; i++) {
      due("a faulty one takes no number", Check.rule(x, "take"), Check.fault(4, 0));
      due("RULES", x.count(5), i);
      due("bytes", x.count(14), 0);
      due("of no byte", x.rule(), Check.fault(0, 0));
      due("rule", Check.rule(x, "take " + i), i);
      due("bytes", x.count(14), 0);
    }
    due("RULES", x.count(5), 6);
    due("the last one", x.force(5), NONE);
    due("one more", x.force(6), -2);
    Supplier<PostFrame> good = () -> taped(Twins.full(), "take 1");
    Supplier<PostFrame> bad = () -> taped(Twins.full(), "take 1;");
    Supplier<PostFrame> none = () -> cut(Twins.full(), 0);
    same("a seventh", good, PostFrame::rule, NONE);
    same("a faulty seventh", bad, PostFrame::rule, NONE);
    same("an empty seventh", none, PostFrame::rule, NONE);
    same("a seventh of a FRAME", Twins::full, PostFrame::rule, NONE);
    same("a faulty one", () -> cut(Twins.rich(), 0), y -> Check.rule(y, "take 1;"), Check.fault(7, 0));
  }

  private static PostFrame taped(PostFrame x, String text) {
    Check.tape(x, text);
    return x;
  }

  private static void p6() {
    promise(6, "force");
    for (int rule : FAR) refusedBy("force " + rule, y -> y.force(rule), -2);
    same("force(0)", PostFrame::new, y -> y.force(0), -2);
    same("force(2)", Twins::rich, y -> y.force(2), -2);
    same("force(6)", Twins::full, y -> y.force(6), -2);
    same("force of the one that is", Twins::rich, y -> y.force(1), 1);
    PostFrame x = Twins.full();
    int was = 5;
    for (int rule : new int[] {0, 5, NONE, NONE, 5, 4}) {
      due("force " + rule, x.force(rule), was);
      due("IN FORCE", x.count(6), rule);
      was = rule;
    }
    due("no ACT", x.count(12), 20);
  }

  // ---------------------------------------------------------------- 7 to 9, what there is

  private static void p7() {
    promise(7, "hole");
    for (int holes = 1; holes <= 6; holes++) {
      PostFrame x = shaped(2, 1, holes);
      for (int h = -1; h <= holes; h++) {
        boolean is = h >= 0 && h < holes;
        due("ROOM of " + h + " of " + holes, x.hole(h, 0), is ? 5 : NONE);
        due("LETTERS of " + h + " of " + holes, x.hole(h, 1), is ? 0 : NONE);
        due("BAGS of " + h + " of " + holes, x.hole(h, 2), is ? 0 : NONE);
      }
      for (int what : new int[] {-1, 3, LOW, HIGH}) due("what " + what, x.hole(0, what), NONE);
      for (int far : FAR) due("hole " + far, x.hole(far, 0), NONE);
    }
    for (int what = 0; what < 3; what++) due("without a FRAME", new PostFrame().hole(0, what), NONE);
  }

  private static void p8() {
    promise(8, "entry");
    PostFrame x = shaped(4, 4, 6);
    for (int size = 0; size <= 12; size++) {
      for (int what = 0; what < 3; what++) {
        due("entry " + size + " of as many", x.entry(size, what), NONE);
        due("entry -1", x.entry(-1, what), NONE);
      }
      if (size == 12) break;
      due("enter", x.enter(4, 255 - size, size % 6), size);
      due("DIGITS", x.entry(size, 0), 4);
      due("PREFIX", x.entry(size, 1), 255 - size);
      due("HOLE", x.entry(size, 2), size % 6);
    }
    for (int what : new int[] {-1, 3, LOW, HIGH}) due("what " + what, x.entry(11, what), NONE);
    for (int far : FAR) due("entry " + far, x.entry(far, 0), NONE);
    due("the first", x.entry(0, 1), 255);
    due("without a FRAME", new PostFrame().entry(0, 0), NONE);
  }

  private static void p9() {
    promise(9, "waits");
    PostFrame x = shaped(4, 4, 1);
    for (int many = 0; many <= 20; many++) {
      due("waits " + many + " of as many", x.waits(many), NONE);
      if (many < 20) {
        x.post(255 - many);
        due("the last of " + (many + 1), x.waits(many), 255 - many);
      }
    }
    due("in front", x.waits(0), 255);
    due("waits -1", x.waits(-1), NONE);
    for (int far : FAR) due("waits " + far, x.waits(far), NONE);
    for (int left = 19; left >= 0; left--) {
      due("turn", x.turn(), 236 + left);
      due("waits behind the last", x.waits(left), NONE);
      due("the new one in front", x.waits(0), left == 0 ? NONE : 235 + left);
    }
    due("without a FRAME", new PostFrame().waits(0), NONE);
  }

  // ---------------------------------------------------------------- 10 to 15, ACTS

  private static void p10() {
    promise(10, "turn");
    same("turn without a FRAME", PostFrame::new, PostFrame::turn, NONE);
    PostFrame x = shaped(2, 1, 1);
    for (int i = 0; i < 3; i++) {
      due("turn, none waits", x.turn(), -2);
      due("it is a TURN", x.count(7), i + 1);
      due("it is an ACT", x.count(12), i + 1);
    }
    due("none is LOST", x.count(10), 0);
    x.post(1);
    due("turn", x.turn(), 1);
    due("the last is gone", x.turn(), -2);
    String letters = "frame 2 2 1;letter 0;letter 3;letter 1";
    due("a SUM of 0 takes none", ruled(letters, "take 0").turn(), -2);
    due("a SUM of 1 takes one", ruled(letters, "take 1").turn(), 0);
    due("below 0 takes none", ruled(letters, "take 0 - 1").turn(), -2);
    due("the greatest", ruled(letters, "take code").turn(), 3);
    due("the one in front of several", ruled(letters, "take last").turn(), 3);
    due("without a CLAUSE that holds", ruled(letters, "take 5 if code = 2").turn(), -2);
    due("the first CLAUSE that holds", ruled(letters, "take 0 if code = 0;take 1;take 99").turn(), 3);
    // 2 to the power 63 goes round below 0, one less is the greatest SUM there is
    String round = "4096*4096*4096*4096*4096*8";
    due("round below 0", ruled(letters, "take " + round).turn(), -2);
    due("the greatest SUM", ruled(letters, "take " + round + "-1 if code=1;take 99999*99999").turn(), 1);
    due("round to 0", ruled(letters, "take " + round + "*2").turn(), -2);
    due("round to 1", ruled(letters, "take " + round + "*2+1").turn(), 0);
    roomOf(1);
    roomOf(2);
    roomOf(20);
    beyond();
  }

  /** As many as ROOM lie in a HOLE, and one more ties these. */
  private static void roomOf(int room) {
    PostFrame x = framed("frame 2 1 1;plan 0 0 0;room 0 " + room);
    for (int i = 1; i <= room; i++) {
      x.post(0);
      x.turn();
      due("LETTERS of ROOM " + room, x.hole(0, 1), i);
      due("BAGS of ROOM " + room, x.hole(0, 2), 0);
    }
    due("none taken", x.turn(), -2);
    due("full is not TIED without a LETTER", x.hole(0, 1), room);
    x.post(1);
    due("one more", x.turn(), 1);
    due("it lies there", x.hole(0, 1), 1);
    due("the others are TIED", x.hole(0, 2), 1);
  }

  /** An object is promised for 512 calls; the class keeps TURN 999 and 999 BAGS behind these, too. */
  private static void beyond() {
    PostFrame x = framed("frame 2 1 2;plan 0 0 0;room 0 1");
    for (int i = 0; i < 999; i++) {
      x.post(0);
      due("turn", x.turn(), 0);
    }
    due("TURN", x.count(7), 999);
    due("BAGS", x.hole(0, 2), 998);
    for (int i = 0; i < 3; i++) x.post(1);
    int acts = x.count(12);
    due("in TURN 999", x.turn(), NONE);
    due("TURN", x.count(7), 999);
    due("ACTS", x.count(12), acts);
    due("wait", x.count(4), 3);
    due("BAGS ahead", x.ahead(0, 0, 2), 998);
    due("BAGS ahead", x.ahead(0, 1, 2), 999);
    due("999 at most", x.ahead(0, 2, 2), 999);
    due("TURNS that are asked go on", x.sorted(), 1001);
    due("TURNS that are asked go on", x.tied(0), 999);
    due("image", x.image(0), 999);
    due("tie", x.tie(0), 1);
    due("BAGS", x.hole(0, 2), 999);
    due("PENCE", x.pence(9999, 0), 9999);
    x.undo();
    x.undo();
    due("back", x.back(0), 999);
  }

  private static void p11() {
    promise(11, "post");
    same("post without a FRAME", PostFrame::new, y -> y.post(0), NONE);
    for (int far : new int[] {-1, LOW, 8, HIGH}) same("post " + far, Twins::rich, y -> y.post(far), NONE);
    for (int code : new int[] {-1, 0, 63, 64}) same("post " + code + ", 20 wait", Twins::full, y -> y.post(code), NONE);
    eachShape((radix, length, codes) -> {
      PostFrame x = shaped(radix, length, 1);
      due("post " + codes, x.post(codes), NONE);
      due("post -1", x.post(-1), NONE);
      due("wait", x.count(4), 0);
      due("ACTS", x.count(12), 0);
      due("post 0", x.post(0), 1);
      due("post " + (codes - 1), x.post(codes - 1), 2);
      due("behind the other", x.waits(1), codes - 1);
    });
    PostFrame x = shaped(2, 1, 1);
    for (int many = 1; many <= 20; many++) due("post", x.post(many % 2), many);
    due("a twenty-first", x.post(0), NONE);
    x.turn();
    due("one was taken", x.post(1), 20);
    due("again", x.post(0), NONE);
    x.undo();
    due("one was UNDONE", x.post(0), 20);
  }

  private static void p12() {
    promise(12, "tie");
    same("tie without a FRAME", PostFrame::new, y -> y.tie(0), NONE);
    for (int hole : new int[] {-1, LOW, 2, HIGH}) refusedBy("tie " + hole, y -> y.tie(hole), NONE);
    same("tie of an empty one", () -> framed(Twins.SMALL), y -> y.tie(0), NONE);
    same("tie of one that was TIED", Twins::rich, y -> y.tie(1), NONE);
    for (int many : new int[] {1, 2, 19, 20}) {
      PostFrame x = framed("frame 2 1 6;plan 0 0 5;room 5 20");
      for (int i = 0; i < many; i++) {
        x.post(0);
        x.turn();
      }
      due("of another", x.tie(4), NONE);
      due("tie of " + many, x.tie(5), many);
      due("empty", x.hole(5, 1), 0);
      due("BAGS", x.hole(5, 2), 1);
      due("nothing to tie", x.tie(5), NONE);
      due("BAGS", x.hole(5, 2), 1);
    }
  }

  private static void p13() {
    promise(13, "enter");
    same("enter without a FRAME", PostFrame::new, y -> y.enter(0, 0, 0), NONE);
    int[][] wrong = {{-1, 0, 0}, {4, 0, 0}, {0, 1, 0}, {0, -1, 0}, {1, 2, 0}, {3, 8, 0}, {3, -1, 0}, {0, 0, -1}, {0, 0, 2},
      {LOW, 0, 0}, {HIGH, 0, 0}, {1, LOW, 0}, {1, HIGH, 0}, {1, 0, LOW}, {1, 0, HIGH}};
    for (int[] w : wrong) {
      same("enter " + w[0] + " " + w[1] + " " + w[2], Twins::rich, y -> y.enter(w[0], w[1], w[2]), NONE);
    }
    eachShape((radix, length, codes) -> {
      for (int digits = 0; digits <= length; digits++) {
        PostFrame x = shaped(radix, length, 6);
        int prefixes = power(radix, digits);
        due("PREFIX " + prefixes, x.enter(digits, prefixes, 0), NONE);
        due("PREFIX -1", x.enter(digits, -1, 0), NONE);
        due("HOLE 6", x.enter(digits, 0, 6), NONE);
        due("HOLE -1", x.enter(digits, 0, -1), NONE);
        due("ENTRIES", x.count(3), 0);
        due("ACTS", x.count(12), 0);
        due("the last PREFIX and HOLE", x.enter(digits, prefixes - 1, 5), 0);
        due("the first PREFIX and HOLE", x.enter(digits, 0, 0), prefixes == 1 ? 0 : 1);
      }
      PostFrame x = shaped(radix, length, 1);
      due("DIGITS " + (length + 1), x.enter(length + 1, 0, 0), NONE);
      due("DIGITS -1", x.enter(-1, 0, 0), NONE);
      due("DIGITS " + length, x.enter(length, 0, 0), 0);
    });
    int[][] more = {{0, 0, 0}, {1, 0, 0}, {3, 1, 0}, {3, 63, 1}};
    for (int[] m : more) same("a thirteenth", Twins::full, y -> y.enter(m[0], m[1], m[2]), NONE);
    PostFrame x = twelve(2);
    for (int i = 0; i < 12; i++) due("one of twelve", x.enter(4, 4 * i, 1), i);
    due("a thirteenth", x.enter(4, 48, 1), NONE);
    due("ENTRIES", x.count(3), 12);
    due("strike", x.strike(0), 11);
    due("a twelfth", x.enter(4, 48, 1), 11);
    due("a thirteenth", x.enter(4, 0, 1), NONE);
  }

  private static void p14() {
    promise(14, "strike");
    for (int entry : new int[] {-1, LOW, 12, HIGH}) refusedBy("strike " + entry, y -> y.strike(entry), NONE);
    same("strike without a FRAME", PostFrame::new, y -> y.strike(0), NONE);
    same("strike without ENTRIES", () -> shaped(2, 1, 1), y -> y.strike(0), NONE);
    int entries = Twins.rich().count(3);
    same("strike behind the last", Twins::rich, y -> y.strike(entries), NONE);
    PostFrame x = twelve(1);
    due("the last", x.strike(11), 11);
    due("it is no more", x.strike(11), NONE);
    due("the first", x.strike(0), 10);
    due("those behind it", x.entry(0, 1), 4);
    due("those behind it", x.entry(9, 1), 40);
    due("one between", x.strike(4), 9);
    due("ahead of it", x.entry(3, 1), 16);
    due("behind it", x.entry(4, 1), 24);
    for (int left = 8; left >= 0; left--) due("strike", x.strike(left), left);
    due("none is left", x.strike(0), NONE);
    due("ENTRIES", x.count(3), 0);
    due("enter again", x.enter(0, 0, 0), 0);
  }

  private static void p15() {
    promise(15, "undo");
    same("undo of a new object", PostFrame::new, PostFrame::undo, NONE);
    same("undo behind frame", () -> framed(Twins.SMALL), PostFrame::undo, NONE);
    same("undo behind back", () -> backTo(Twins.rich(), 3), PostFrame::undo, NONE);
    for (int acts : new int[] {1, 19, 20, 21, 40, 41}) {
      PostFrame x = framed(Twins.SMALL);
      for (int i = 0; i < acts; i++) x.turn();
      int most = Math.min(20, acts);
      due("ACTS", x.count(12), most);
      for (int left = most - 1; left >= 0; left--) {
        due("undo", x.undo(), left);
        due("ACTS", x.count(12), left);
      }
      due("TURN", x.count(7), acts - most);
      due("none can", x.undo(), NONE);
      due("TURN", x.count(7), acts - most);
    }
    // what is refused is no ACT, what is no ACT can't be UNDONE
    PostFrame x = framed(Twins.SMALL);
    x.post(7);
    x.post(8);
    x.tie(0);
    x.enter(4, 0, 0);
    x.strike(3);
    x.force(NONE);
    x.seed(3);
    x.note(0, 0, 0);
    x.image(0);
    x.ahead(0, 5, 0);
    x.posts(1, 5, 50, 0);
    due("undo of the one ACT", x.undo(), 0);
    due("wait", x.count(4), 5);
    due("x", x.count(13), 3);
    due("NOTES", x.count(11), 1);
    due("none can", x.undo(), NONE);
    due("an ACT behind that", x.post(3), 6);
    due("undo", x.undo(), 0);
    // ENTRIES, how many wait, TURN, LETTERS, BAGS, LOST ones behind each ACT of Twins.rich(), the last first
    PostFrame y = Twins.rich();
    int[][] behind = {{5, 3, 3, 1, 1, 1}, {4, 3, 3, 1, 1, 1}, {4, 3, 3, 2, 0, 1}, {4, 4, 2, 1, 0, 1}, {3, 4, 2, 1, 0, 1},
      {3, 3, 2, 1, 0, 1}, {3, 4, 1, 1, 0, 0}, {3, 5, 0, 0, 0, 0}};
    int[] counts = {3, 4, 7, 8, 9, 10};
    for (int i = 0; i < 8; i++) {
      if (i > 0) due("undo", y.undo(), 7 - i);
      for (int c = 0; c < 6; c++) due("count " + counts[c] + " behind undo " + i, y.count(counts[c]), behind[i][c]);
    }
    due("none can", y.undo(), NONE);
  }

  private static PostFrame backTo(PostFrame x, int k) {
    due("back", x.back(k) >= 0 ? 1 : 0, 1);
    return x;
  }

  // ---------------------------------------------------------------- 16 to 25, by the PLAN

  private static void p16() {
    promise(16, "where");
    refusedBy("where(-1, 0)", y -> y.where(-1, 0), NONE);
    refusedBy("where(64, 1)", y -> y.where(64, 1), NONE);
    eachShape((radix, length, codes) -> {
      PostFrame x = shaped(radix, length, 6);
      for (int what = 0; what < 2; what++) {
        due("without ENTRIES", x.where(0, what), -2);
        due("without ENTRIES", x.where(codes - 1, what), -2);
        due("behind the last CODE", x.where(codes, what), NONE);
        due("ahead of the first", x.where(-1, what), NONE);
        for (int far : FAR) due("where " + far, x.where(far, what), NONE);
      }
      x.enter(0, 0, 5);
      due("by no digit", x.where(codes - 1, 0), 5);
      due("by no digit", x.where(codes - 1, 1), 0);
      x.enter(length, codes - 1, 0);
      due("by all digits", x.where(codes - 1, 0), 0);
      due("by all digits", x.where(codes - 1, 1), length);
      due("the one beside it", x.where(codes - 2, 1), 0);
      for (int what : new int[] {-1, 2, LOW, HIGH}) due("what " + what, x.where(0, what), NONE);
    });
    due("without a FRAME", new PostFrame().where(0, 0), NONE);
    // the most DIGITS that fit, in whatever order they were told
    PostFrame y = framed("frame 2 4 6;plan 2 1 2;plan 4 4 4;plan 0 0 0;plan 3 2 3;plan 1 0 1");
    int[][] by = {{8, 0}, {15, 0}, {0, 1}, {3, 1}, {6, 2}, {7, 2}, {5, 3}, {4, 4}};
    for (int[] b : by) {
      due("HOLE of " + b[0], y.where(b[0], 0), b[1]);
      due("DIGITS of " + b[0], y.where(b[0], 1), b[1]);
    }
  }

  private interface Reading {
    int of(PostFrame x, int reading);
  }

  /** Which numbers are READINGS. */
  private static void readings(Reading call) {
    due("without a FRAME", call.of(new PostFrame(), 0), NONE);
    due("without a FRAME", call.of(new PostFrame(), 9), NONE);
    eachShape((radix, length, codes) -> {
      PostFrame x = shaped(radix, length, 2);
      for (int place = 0, ten = 1; place < length; place++, ten *= 10) {
        for (int digit = 0; digit < 10; digit++) {
          boolean is = digit < radix || digit == 9;
          due("reading " + digit * ten, call.of(x, digit * ten) == NONE ? 0 : 1, is ? 1 : 0);
        }
      }
      int most = power(10, length) - 1;
      due("all SMUDGED", call.of(x, most) == NONE ? 0 : 1, 1);
      due("a digit more", call.of(x, most + 1), NONE);
      due("a digit more", call.of(x, 10 * most + 9), NONE);
      for (int far : new int[] {-1, -9, LOW, HIGH}) due("reading " + far, call.of(x, far), NONE);
    });
  }

  private static void p17() {
    promise(17, "may");
    readings(PostFrame::may);
    PostFrame x = framed("frame 4 4 6");
    due("LOST alone", x.may(9999), 64);
    due("LOST alone", x.may(3333), 64);
    for (int h = 0; h < 6; h++) x.enter(4, h, h);
    due("all HOLES, and LOST", x.may(9999), 127);
    due("the last HOLE", x.may(11), 32);
    due("the first HOLE", x.may(0), 1);
    due("the last digit", x.may(9), 15);
    due("the last digit, and LOST", x.may(19), 112);
    x.enter(0, 0, 0);
    due("all HOLES, none LOST", x.may(9999), 63);
    same("may", Twins::rich, y -> y.may(1), 1);
    same("may of no READING", Twins::rich, y -> y.may(2), NONE);
  }

  private static void p18() {
    promise(18, "read");
    readings((x, reading) -> x.read(reading, 0));
    readings((x, reading) -> x.read(reading, 1));
    PostFrame x = framed("frame 4 4 6");
    for (int what : new int[] {-1, 2, LOW, HIGH}) due("what " + what, x.read(9999, what), NONE);
    due("all are LOST: none to be read", x.read(9999, 0), 0);
    due("all are LOST: none to be read", x.read(9999, 1), 0);
    x.enter(4, 0, 5);
    due("all to be read", x.read(9999, 0), 4);
    due("all to be read", x.read(9999, 1), 15);
    due("of one no CODE can go there", x.read(1999, 0), 0);
    int[][] alone = {{9000, 1}, {900, 2}, {90, 4}, {9, 8}};
    for (int[] a : alone) {
      due("one to be read", x.read(a[0], 0), 1);
      due("which", x.read(a[0], 1), a[1]);
    }
    due("none SMUDGED", x.read(0, 0), 0);
    due("none SMUDGED", x.read(0, 1), 0);
    // the digit decides by its last value alone
    PostFrame y = framed("frame 4 2 2;plan 0 0 0;plan 1 3 1");
    due("the first", y.read(99, 1), 1);
    due("the second decides nothing", y.read(39, 0), 0);
    same("read", Twins::rich, z -> z.read(999, 2), NONE);
  }

  private static void p19() {
    promise(19, "codes");
    for (int what = 0; what < 2; what++) {
      int w = what;
      same("codes without a FRAME", PostFrame::new, y -> y.codes(NONE, w), -3);
      same("codes without a FRAME", PostFrame::new, y -> y.codes(0, w), -3);
    }
    for (int hole : new int[] {LOW, -2, 2, HIGH}) refusedBy("codes " + hole, y -> y.codes(hole, 0), -3);
    for (int what : new int[] {LOW, -1, 2, HIGH}) refusedBy("codes of what " + what, y -> y.codes(NONE, what), -3);
    eachShape((radix, length, codes) -> {
      for (int holes : new int[] {1, 6}) {
        PostFrame x = shaped(radix, length, holes);
        due("all are LOST", x.codes(NONE, 0), codes);
        due("the least", x.codes(NONE, 1), 0);
        due("none goes there", x.codes(holes - 1, 0), 0);
        due("none goes there", x.codes(holes - 1, 1), -2);
        due("no HOLE", x.codes(holes, 0), -3);
        x.enter(length, codes - 1, holes - 1);
        due("one goes there", x.codes(holes - 1, 0), 1);
        due("which", x.codes(holes - 1, 1), codes - 1);
        due("all others are LOST", x.codes(NONE, 0), codes - 1);
        x.enter(0, 0, holes - 1);
        due("all go there", x.codes(holes - 1, 0), codes);
        due("the least", x.codes(holes - 1, 1), 0);
        due("none is LOST", x.codes(NONE, 0), 0);
        due("none is LOST", x.codes(NONE, 1), -2);
      }
    });
  }

  private static void p20() {
    promise(20, "slips");
    refusedBy("slips(-1)", y -> y.slips(-1), NONE);
    refusedBy("slips(64)", y -> y.slips(64), NONE);
    due("without a FRAME", new PostFrame().slips(0), NONE);
    eachShape((radix, length, codes) -> {
      PostFrame x = shaped(radix, length, 2);
      due("behind the last CODE", x.slips(codes), NONE);
      for (int far : FAR) due("slips " + far, x.slips(far), NONE);
      due("all are LOST", x.slips(0), 0);
      x.enter(length, codes - 1, 1);
      due("one GOES, the others are LOST", x.slips(codes - 1), length * (radix - 1));
      due("a LOST one beside it", x.slips(codes - 2), 1);
      due("one that is farther", x.slips(0), length == 1 ? 1 : 0);
      x.enter(0, 0, 0);
      due("to another HOLE", x.slips(codes - 1), length * (radix - 1));
      x.enter(0, 0, 1);
      due("all go to one", x.slips(codes - 1), 0);
    });
  }

  private static void p21() {
    promise(21, "worst");
    for (int what : new int[] {LOW, -1, 2, HIGH}) refusedBy("worst " + what, y -> y.worst(what), NONE);
    for (int what = 0; what < 2; what++) due("without a FRAME", new PostFrame().worst(what), NONE);
    eachShape((radix, length, codes) -> {
      PostFrame x = shaped(radix, length, 2);
      due("no SLIPS: the least", x.worst(0), 0);
      due("no SLIPS", x.worst(1), 0);
      x.enter(length, codes - 1, 1);
      // of one digit of two, both slip alike
      due("the last", x.worst(0), codes == 2 ? 0 : codes - 1);
      due("how many", x.worst(1), length * (radix - 1));
    });
    for (int code = 0; code < 4; code++) {
      due("each can be it", framed("frame 4 1 2;plan 0 0 0;plan 1 " + code + " 1").worst(0), code);
    }
    PostFrame x = framed("frame 4 4 2;plan 4 255 0;plan 4 0 1");
    due("the least of several", x.worst(0), 0);
    due("how many", x.worst(1), 12);
  }

  private static void p22() {
    promise(22, "idle");
    same("idle without a FRAME", PostFrame::new, PostFrame::idle, NONE);
    due("without ENTRIES", shaped(4, 4, 6).idle(), 0);
    due("twelve, none IDLE", twelve(1).idle(), 0);
    PostFrame x = shaped(2, 4, 1);
    for (int p = 0; p < 8; p++) due("enter", x.enter(3, p, 0), p);
    due("none is", x.idle(), 0);
    for (int p = 0; p < 3; p++) x.enter(2, p, 0);
    x.enter(0, 0, 0);
    due("the last four of twelve", x.idle(), 0xf00);
    x.strike(0);
    // CODES 0 and 1 go by the one of 2 digits now, and the others have a number 1 less
    due("one decides again", x.idle(), 0x700);
    PostFrame y = framed("frame 2 1 2;plan 0 0 0;plan 1 0 0;plan 1 1 0");
    due("the first", y.idle(), 1);
    due("HOLES do not matter", framed("frame 2 1 2;plan 0 0 0;plan 1 0 0").idle(), 0);
  }

  private static void p23() {
    promise(23, "least");
    same("least without a FRAME", PostFrame::new, PostFrame::least, NONE);
    eachShape((radix, length, codes) -> {
      PostFrame x = shaped(radix, length, 6);
      due("all are LOST", x.least(), 0);
      x.enter(length, codes - 1, 5);
      due("one alone", x.least(), 1);
      x.enter(0, 0, 5);
      due("all to one HOLE", x.least(), 1);
      x.enter(length, 0, 0);
      due("all to one but one", x.least(), 2);
    });
    due("twelve of twelve", twelve(1).least(), 12);
    PostFrame x = shaped(2, 4, 2);
    for (int code = 0; code < 12; code++) x.enter(4, code, code % 2);
    // 0 to 7 by one and four, 8 to 11 by one and two: none may go over 12 to 15, which are LOST
    due("of twelve eight", x.least(), 8);
  }

  private static void p24() {
    promise(24, "one");
    for (int what : new int[] {LOW, -1, 5, HIGH}) refusedBy("one " + what, y -> y.one(what), -2);
    for (int what = 0; what < 5; what++) due("without a FRAME", new PostFrame().one(what), -2);
    best("none waits", framed("frame 2 1 1;plan 0 0 0"), 0, 0, NONE, NONE, NONE);
    best("none is LOST or TIED", framed("frame 2 1 6;plan 0 0 0;letter 1"), 0, 0, NONE, NONE, NONE);
    best("fewest DIGITS, least HOLE", framed("frame 4 4 6;letter 255"), 0, 0, 0, 0, 0);
    best("least PREFIX", framed("frame 4 1 2;plan 0 0 0;room 0 1;room 1 1;letter 3;letter 2"), 0, 0, 1, 2, 1);
    best("the last CODE and HOLE", framed("frame 4 4 6;plan 4 255 0;room 0 1;room 1 1;room 2 1;room 3 1;room 4 1;letter 255;letter 255"),
        0, 0, 4, 255, 5);
    // LOST ones count ahead of BAGS: the ENTRY saves one and ties one
    best("fewest LOST first", framed("frame 2 1 1;room 0 1;plan 1 0 0;letter 0;letter 1"), 0, 1, 0, 0, 0);
    PostFrame x = twelve(2);
    x.post(255);
    best("of twelve none helps", x, 1, 0, NONE, NONE, NONE);
    x.strike(11);
    best("a twelfth helps", x, 0, 0, 0, 0, 0);
    PostFrame y = twelve(2);
    y.post(12);
    y.post(12);
    y.post(255);
    best("one of twelve that is changed", y, 1, 0, 4, 12, 1);
    due("nothing changes", y.where(12, 0), 0);
    PostFrame z = shaped(2, 1, 1);
    for (int i = 0; i < 20; i++) z.post(i % 2);
    best("twenty", z, 0, 3, 0, 0, 0);
    for (int i = 0; i < 5; i++) z.turn();
    best("those LOST before don't count", z, 0, 2, 0, 0, 0);
    // as many as ROOM lie there: the next one ties these
    PostFrame w = framed("frame 2 1 1;room 0 2;plan 0 0 0;letter 0;letter 0;letter 0");
    w.turn();
    best("not yet full", w, 0, 1, NONE, NONE, NONE);
    w.turn();
    best("full", w, 0, 1, NONE, NONE, NONE);
    w.turn();
    best("none waits, a BAG there was", w, 0, 0, NONE, NONE, NONE);
  }

  private static void best(String name, PostFrame x, int... want) {
    for (int what = 0; what < want.length; what++) due(name + ", one " + what, x.one(what), want[what]);
  }

  private static void p25() {
    promise(25, "change");
    for (int what : new int[] {LOW, -1, 3, HIGH}) refusedBy("change " + what, y -> y.change(what), -2);
    for (int what = 0; what < 3; what++) due("without a FRAME", new PostFrame().change(what), -2);
    changed("none waits", framed("frame 2 1 6;plan 0 0 0"), 0, NONE, NONE);
    changed("one HOLE alone", framed("frame 2 1 1;room 0 1;plan 0 0 0;letter 0;letter 0"), 1, NONE, NONE);
    changed("LOST ones tie nothing", framed("frame 2 1 2;room 0 1;letter 0;letter 0"), 0, NONE, NONE);
    changed("none is as good", framed("frame 2 1 2;room 0 1;room 1 1;plan 0 0 0;letter 0;letter 0"), 1, NONE, NONE);
    changed("two HOLES", framed("frame 2 1 2;room 0 1;room 1 2;plan 0 0 0;letter 0;letter 0"), 0, 0, 1);
    changed("the least second one", framed("frame 2 1 6;room 0 1;room 1 1;room 2 2;plan 0 0 0;letter 0;letter 0"), 0, 0, 2);
    changed("the last two", framed("frame 2 1 6;room 4 1;room 5 2;room 0 1;room 1 1;room 2 1;room 3 1;plan 0 0 4;letter 0;letter 0"), 0, 4, 5);
    changed("the least first one", framed("frame 2 1 3;room 0 1;room 1 1;room 2 2;plan 1 0 0;plan 1 1 1;letter 0;letter 0;letter 1;letter 1"),
        1, 0, 2);
    changed("each for the other", framed("frame 2 1 2;room 0 1;room 1 2;plan 1 0 0;plan 1 1 1;letter 0;letter 0;letter 1"), 0, 0, 1);
    changed("a third one stays", framed("frame 3 1 3;room 0 1;room 1 2;room 2 1;plan 1 0 0;plan 1 1 1;plan 1 2 2;letter 0;letter 0;letter 1;letter 2"),
        0, 0, 1);
    PostFrame x = framed("frame 2 1 2;room 0 1;room 1 2;plan 0 0 0;letter 0;letter 0;letter 0;letter 0");
    changed("fewest, not none", x, 1, 0, 1);
    x.turn();
    x.turn();
    changed("BAGS there were don't count", x, 0, 0, 1);
    due("nothing changes", x.where(0, 0), 0);
  }

  private static void changed(String name, PostFrame x, int... want) {
    for (int what = 0; what < 3; what++) due(name + ", change " + what, x.change(what), want[what]);
  }

  // ---------------------------------------------------------------- 26 to 29, how it goes on

  private static final String TWO = "frame 2 1 1;room 0 1;plan 0 0 0;letter 0;letter 1";

  private static void p26() {
    promise(26, "ahead");
    for (int what = 0; what < 4; what++) due("without a FRAME", new PostFrame().ahead(0, 0, what), NONE);
    for (int what = 0; what < 4; what++) {
      int w = what;
      for (int n : new int[] {LOW, -1, 101, HIGH}) refusedBy("ahead " + n, y -> y.ahead(0, n, w), NONE);
    }
    for (int what : new int[] {LOW, -1, 4, HIGH}) refusedBy("ahead of what " + what, y -> y.ahead(0, 1, what), NONE);
    for (int hole : new int[] {LOW, -1, 2, HIGH}) {
      refusedBy("LETTERS of HOLE " + hole, y -> y.ahead(hole, 1, 0), NONE);
      PostFrame x = framed(Twins.SMALL);
      for (int what = 1; what < 4; what++) due("the HOLE is not asked for", x.ahead(hole, 1, what), x.ahead(0, 1, what));
    }
    PostFrame six = framed("frame 2 1 6;plan 0 0 5;letter 0");
    due("the last HOLE", six.ahead(5, 1, 0), 1);
    due("no HOLE", six.ahead(6, 1, 0), NONE);
    PostFrame x = ruled(TWO, "take 1 if turn = 0 or turn >= 99");
    int[][] rows = {{0, 0, 2, 0}, {1, 1, 1, 0}, {99, 1, 1, 0}, {100, 1, 0, 1}};
    for (int[] r : rows) {
      for (int what = 0; what < 3; what++) due("ahead " + r[0] + " " + what, x.ahead(0, r[0], what), r[what + 1]);
    }
    x.strike(0);
    due("LOST ahead of 0", x.ahead(0, 0, 3), 0);
    due("LOST ahead of 99", x.ahead(0, 99, 3), 1);
    due("LOST ahead of 100", x.ahead(0, 100, 3), 2);
    x.turn();
    due("with those LOST before", x.ahead(0, 0, 3), 1);
    due("from now on", x.ahead(0, 98, 3), 1);
    due("from now on", x.ahead(0, 99, 3), 2);
    PostFrame y = framed(TWO);
    y.turn();
    y.tie(0);
    due("with BAGS there were", y.ahead(0, 0, 2), 1);
    due("with BAGS there were", y.ahead(0, 100, 2), 1);
  }

  private static void p27() {
    promise(27, "sorted");
    same("sorted without a FRAME", PostFrame::new, PostFrame::sorted, NONE);
    due("none waits", shaped(2, 1, 1).sorted(), 0);
    PostFrame none = shaped(2, 1, 1);
    for (int i = 0; i < 5; i++) none.turn();
    due("none waits", none.sorted(), 5);
    due("one waits", framed("frame 2 1 1;letter 0").sorted(), 0);
    due("two wait", framed(TWO).sorted(), 1);
    PostFrame twenty = shaped(2, 1, 1);
    for (int i = 0; i < 20; i++) twenty.post(0);
    due("twenty wait", twenty.sorted(), 19);
    due("behind none", ruled(TWO, "take 0").sorted(), -2);
    due("behind none", ruled(TWO, "take code").sorted(), -2);
    due("the last of 200", ruled(TWO, "take 1 if turn = 0 or turn = 199").sorted(), 199);
    due("one behind it", ruled(TWO, "take 1 if turn = 0 or turn = 200").sorted(), -2);
    PostFrame x = ruled(TWO, "take 1 if turn = 0 or turn = 210");
    for (int now = 0; now <= 10; now++) {
      due("none behind TURN " + now, x.sorted(), -2);
      x.turn();
    }
    due("this one the first", x.sorted(), 210);
    same("sorted", Twins::rich, PostFrame::sorted, 5);
  }

  private static void p28() {
    promise(28, "tied");
    for (int hole : new int[] {LOW, -1, 2, HIGH}) refusedBy("tied " + hole, y -> y.tied(hole), NONE);
    due("without a FRAME", new PostFrame().tied(0), NONE);
    for (int holes = 1; holes <= 6; holes++) {
      PostFrame x = shaped(2, 1, holes);
      due("the last HOLE", x.tied(holes - 1), -2);
      due("no HOLE", x.tied(holes), NONE);
    }
    due("just full", framed("frame 2 1 1;room 0 2;plan 0 0 0;letter 0;letter 1").tied(0), -2);
    due("one more", framed("frame 2 1 1;room 0 2;plan 0 0 0;letter 0;letter 1;letter 0").tied(0), 2);
    PostFrame now = framed(TWO);
    now.turn();
    due("this one the first", now.tied(0), 1);
    now.turn();
    due("a BAG there was", now.tied(0), -2);
    due("the last of 200", ruled(TWO, "take 1 if turn = 0 or turn = 199").tied(0), 199);
    due("one behind it", ruled(TWO, "take 1 if turn = 0 or turn = 200").tied(0), -2);
    PostFrame x = ruled(TWO, "take 1 if turn = 0 or turn = 203");
    for (int i = 0; i < 4; i++) {
      due("none in 200 from " + i, x.tied(0), -2);
      x.turn();
    }
    due("in 200 from 4", x.tied(0), 203);
    PostFrame two = framed("frame 2 1 2;room 0 1;room 1 1;plan 1 0 0;plan 1 1 1;letter 1;letter 0;letter 0;letter 1");
    due("of another HOLE", two.tied(0), 2);
    due("of another HOLE", two.tied(1), 3);
  }

  private static void p29() {
    promise(29, "enough");
    for (int hole : new int[] {LOW, -1, 2, HIGH}) refusedBy("enough of " + hole, y -> y.enough(hole, 1), NONE);
    for (int n : new int[] {LOW, -1, 0, 41, HIGH}) refusedBy("enough for " + n, y -> y.enough(0, n), NONE);
    due("without a FRAME", new PostFrame().enough(0, 1), NONE);
    due("none waits", shaped(2, 1, 6).enough(5, 40), 1);
    due("no HOLE", shaped(2, 1, 6).enough(6, 40), NONE);
    due("for one TURN", framed(TWO).enough(0, 1), 1);
    due("for two", framed(TWO).enough(0, 2), 2);
    due("in the last of 40", ruled(TWO, "take 1 if turn = 0 or turn = 39").enough(0, 40), 2);
    due("in one behind it", ruled(TWO, "take 1 if turn = 0 or turn = 39").enough(0, 39), 1);
    due("in one behind it", ruled(TWO, "take 1 if turn = 0 or turn = 40").enough(0, 40), 1);
    PostFrame x = framed("frame 2 1 1;room 0 20;plan 0 0 0");
    for (int i = 0; i < 20; i++) x.post(0);
    due("the most ROOM", x.enough(0, 40), 20);
    due("one TURN less", x.enough(0, 19), 19);
    x.turn();
    x.post(0);
    due("by none", x.enough(0, 20), -2);
    due("just enough", x.enough(0, 19), 20);
    due("with the one that lies there", x.enough(0, 1), 2);
    due("the ROOM stays", x.hole(0, 0), 20);
    // more than ROOM 1 lie there: the next LETTER ties them, too
    PostFrame y = framed("frame 2 1 1;room 0 3;plan 0 0 0;letter 0;letter 0;letter 0;letter 0");
    for (int i = 0; i < 3; i++) y.turn();
    due("more lie there than ROOM", y.enough(0, 1), 4);
    // a RULE that holds LETTERS back by ROOM: 2 is enough, where more is not
    PostFrame z = ruled("frame 2 1 1;plan 0 0 0;letter 0;letter 0;letter 0;letter 0", "take 1 if room <= 1 or room > 2;take 2 - lying");
    due("the least, though more would not do", z.enough(0, 40), 2);
  }

  // ---------------------------------------------------------------- 30 to 35, what can have been

  private static void p30() {
    promise(30, "said");
    for (int letter : new int[] {LOW, -1, 12, HIGH}) refusedBy("said of " + letter, y -> y.said(letter, 0), NONE);
    for (int what : new int[] {LOW, -1, 2, HIGH}) refusedBy("said of what " + what, y -> y.said(0, what), NONE);
    due("without a FRAME", new PostFrame().said(0, 0), NONE);
    PostFrame none = shaped(4, 4, 1);
    none.post(0);
    due("none was told", none.said(0, 0), NONE);
    StringBuilder text = new StringBuilder("frame 4 4 6");
    for (int i = 0; i < 12; i++) text.append(";letter ").append(i);
    for (int told = 1; told <= 12; told += 11) {
      PostFrame x = framed(told == 1 ? "frame 4 4 6;letter 0" : text.toString());
      x.post(255);
      due("the last that was told", x.said(told - 1, 0), 256);
      due("the least", x.said(told - 1, 1), 0);
      due("one that was posted", x.said(told, 0), NONE);
      due("one that was posted", x.said(told, 1), NONE);
      for (int i = 0; i < 14; i++) x.turn();
      due("one that was taken", x.said(told - 1, 0), 256);
    }
    // behind the last TURN but one that a NOTE can tell, and behind the last
    for (int n : new int[] {0, 1, 59, 60}) {
      PostFrame x = ruled("frame 2 2 2;plan 2 3 1;letter 0", "take 1 if turn = " + n);
      due("note", x.note(n, 1, 1), 1);
      due("one CODE alone", x.said(0, 0), 1);
      due("the last", x.said(0, 1), 3);
      if (n > 0) {
        due("note", x.note(n - 1, 1, 1), 2);
        due("none", x.said(0, 0), 0);
        due("none", x.said(0, 1), -2);
      }
    }
    same("said", Twins::full, y -> y.said(11, 0), 0);
  }

  private static void p31() {
    promise(31, "sent");
    for (int entry : new int[] {LOW, -1, 12, HIGH}) refusedBy("sent of " + entry, y -> y.sent(entry), NONE);
    due("without a FRAME", new PostFrame().sent(0), NONE);
    PostFrame none = shaped(4, 4, 6);
    none.enter(0, 0, 0);
    due("none was told", none.sent(0), NONE);
    StringBuilder text = new StringBuilder("frame 4 4 6;letter 11");
    for (int i = 0; i < 12; i++) text.append(";plan 4 ").append(i).append(" 0");
    PostFrame x = framed(text.toString());
    due("the last of twelve", x.sent(11), 63);
    due("one more", x.sent(12), NONE);
    for (int i = 0; i < 12; i++) x.strike(0);
    due("one that was struck out", x.sent(11), 63);
    for (int h = 0; h < 6; h++) {
      x.note(NONE, 0, 0);
      x.note(0, h, 1);
      due("HOLE " + h, x.sent(11), 1 << h);
      due("by another ENTRY", x.sent(10), h == 0 ? 63 : 0);
    }
    x.note(0, 0, 1);
    due("none", x.sent(11), 0);
    for (int holes = 1; holes <= 6; holes++) {
      PostFrame y = framed("frame 2 1 " + holes + ";plan 0 0 0");
      y.enter(1, 0, 0);
      due("all HOLES", y.sent(0), (1 << holes) - 1);
      due("one that was entered", y.sent(1), NONE);
    }
    for (int n : new int[] {0, 1, 59, 60}) {
      PostFrame y = ruled("frame 2 1 2;plan 0 0 0;letter 0", "take 1 if turn = " + n);
      y.note(n, 1, 1);
      due("behind TURN " + n, y.sent(0), 2);
      if (n > 0) {
        y.note(n - 1, 1, 1);
        due("behind TURN " + (n - 1), y.sent(0), 0);
      }
    }
  }

  private static void p32() {
    promise(32, "pence");
    for (int much : new int[] {LOW, -1, 10000, HIGH}) refusedBy("pence of " + much, y -> y.pence(much, 0), NONE);
    for (int hole : new int[] {LOW, -1, 2, HIGH}) refusedBy("pence for " + hole, y -> y.pence(1, hole), NONE);
    due("without a FRAME", new PostFrame().pence(0, 0), NONE);
    PostFrame x = framed("frame 4 2 6;plan 2 0 0;plan 2 1 1;plan 2 2 2;plan 2 3 3;plan 2 4 4;plan 2 5 5");
    for (int h = 0; h < 6; h++) {
      due("none is TIED", x.pence(9999, h), 0);
      due("none is TIED", x.pence(0, h), 0);
    }
    due("no HOLE", x.pence(9999, 6), NONE);
    bag(x, 5);
    due("all to the last", x.pence(9999, 5), 9999);
    due("of nothing", x.pence(0, 5), 0);
    due("one penny", x.pence(1, 5), 1);
    due("nothing to others", x.pence(9999, 4), 0);
    for (int h = 0; h < 5; h++) bag(x, h);
    for (int h = 0; h < 6; h++) {
      due("one each by six", x.pence(6, h), 1);
      due("five, the least first", x.pence(5, h), h < 5 ? 1 : 0);
      due("one, the least first", x.pence(1, h), h < 1 ? 1 : 0);
      due("seven", x.pence(7, h), h < 1 ? 2 : 1);
      due("9999 by six: 1666 and 3 left", x.pence(9999, h), h < 3 ? 1667 : 1666);
      due("nothing", x.pence(0, h), 0);
    }
    bag(x, 5);
    // 2 of 7 BAGS to HOLE 5: of 3 pence 0.43 each and 0.86
    int[] three = {1, 1, 0, 0, 0, 1};
    for (int h = 0; h < 6; h++) due("whose part lost most", x.pence(3, h), three[h]);
  }

  private static void bag(PostFrame x, int hole) {
    x.post(hole);
    x.turn();
    due("tie", x.tie(hole), 1);
  }

  private static void p33() {
    promise(33, "note");
    for (int n : new int[] {LOW, -2, 61, HIGH}) refusedBy("note of " + n, y -> y.note(n, 0, 0), -2);
    for (int hole : new int[] {LOW, -1, 2, HIGH}) refusedBy("note of HOLE " + hole, y -> y.note(0, hole, 0), -2);
    for (int many : new int[] {LOW, -1, 21, HIGH}) refusedBy("note of " + many, y -> y.note(0, 0, many), -2);
    same("note without a FRAME", PostFrame::new, y -> y.note(0, 0, 0), -2);
    same("none of none", PostFrame::new, y -> y.note(NONE, 0, 0), 0);
    same("an eleventh", Twins::full, y -> y.note(0, 0, 0), -2);
    same("an eleventh", Twins::full, y -> y.note(60, 1, 20), -2);
    PostFrame x = shaped(2, 1, 6);
    int[][] good = {{0, 0, 0}, {60, 5, 20}, {0, 5, 0}, {60, 0, 20}, {59, 4, 19}, {1, 1, 1}, {60, 0, 0}, {0, 0, 20}, {0, 0, 0}, {30, 3, 10}};
    for (int time = 0; time < 2; time++) {
      for (int i = 0; i < 10; i++) due("note", x.note(good[i][0], good[i][1], good[i][2]), i + 1);
      due("NOTES", x.count(11), 10);
      due("an eleventh", x.note(0, 0, 0), -2);
      due("NOTES", x.count(11), 10);
      due("none then", x.note(NONE, time == 0 ? LOW : 9, time == 0 ? HIGH : 99), 0);
      due("NOTES", x.count(11), 0);
    }
    due("no ACT", x.count(12), 0);
    // the tenth counts as the first does
    for (int at : new int[] {0, 9}) {
      PostFrame y = framed("frame 2 1 1;plan 0 0 0;letter 0");
      for (int i = 0; i < 10; i++) y.note(0, 0, i == at ? 2 : 1);
      due("one of ten is not so", y.ruled(0), 0);
      y.note(NONE, 0, 0);
      due("none is left", y.ruled(0), 1);
    }
    PostFrame z = framed("frame 2 1 1;plan 0 0 0;room 0 12" + ";letter 0".repeat(12));
    z.note(11, 0, 12);
    z.note(60, 0, 12);
    due("twelve lie there", z.ruled(0), 1);
    z.note(10, 0, 12);
    due("not yet", z.ruled(0), 0);
  }

  private static void p34() {
    promise(34, "ruled");
    for (int what : new int[] {LOW, -1, 2, HIGH}) refusedBy("ruled " + what, y -> y.ruled(what), -3);
    for (int what = 0; what < 2; what++) {
      PostFrame x = new PostFrame();
      Check.rule(x, "take 1");
      due("without a FRAME", x.ruled(what), -3);
    }
    PostFrame none = framed(TWO);
    due("no RULES, none is so", none.ruled(0), 1);
    due("no RULES, none is so", none.ruled(1), NONE);
    none.note(0, 0, 0);
    due("no RULES, none is not so", none.ruled(0), 0);
    due("no RULES, none is not so", none.ruled(1), -2);
    for (int rule = 0; rule < 6; rule++) none.force(NONE);
    PostFrame x = framed("frame 2 1 1;plan 0 0 0;letter 0");
    for (int rule = 0; rule < 6; rule++) {
      due("rule", Check.rule(x, "take 1 if turn = " + rule), rule);
      due("RULES, and none", x.ruled(0), rule + 2);
      due("none ahead of 0", x.ruled(1), NONE);
    }
    for (int rule = 1; rule < 6; rule++) {
      x.note(NONE, 0, 0);
      x.note(rule - 1, 0, 0);
      due("those behind it", x.ruled(0), 6 - rule);
      due("the first", x.ruled(1), rule);
      x.note(rule, 0, 1);
      due("one alone", x.ruled(0), 1);
      due("which", x.ruled(1), rule);
    }
    x.note(NONE, 0, 0);
    x.note(5, 0, 0);
    due("none such", x.ruled(0), 0);
    due("none such", x.ruled(1), -2);
    // all as the text told it: what was done since does not count
    PostFrame y = framed(TWO);
    y.turn();
    y.tie(0);
    y.strike(0);
    y.note(0, 0, 1);
    due("from the begin on", y.ruled(0), 1);
  }

  private static void p35() {
    promise(35, "look");
    for (int n : new int[] {LOW, -1, 61, HIGH}) refusedBy("look at " + n, y -> y.look(n, 0), NONE);
    for (int what : new int[] {LOW, -1, 2, HIGH}) refusedBy("look of what " + what, y -> y.look(0, what), NONE);
    due("without a FRAME", new PostFrame().look(0, 0), NONE);
    PostFrame none = framed("frame 2 1 6;plan 0 0 5;letter 0");
    for (int n : new int[] {0, 60}) {
      due("one alone, the least HOLE", none.look(n, 0), 0);
      due("one alone", none.look(n, 1), 1);
    }
    none.note(0, 5, 0);
    for (int what = 0; what < 2; what++) due("none is so", none.look(0, what), -2);
    due("what it would be NONE for", none.look(0, 2), NONE);
    due("what it would be NONE for", none.look(61, 0), NONE);
    for (int n : new int[] {1, 2, 59, 60}) {
      PostFrame x = framed("frame 2 1 6;plan 0 0 5;letter 0");
      Check.rule(x, "take 1 if turn = " + n);
      due("they part in the last HOLE", x.look(n - 1, 0), 5);
      due("they part", x.look(n - 1, 1), 1);
      due("they part no more", x.look(n, 0), 0);
      due("they part no more", x.look(n, 1), 2);
    }
    PostFrame noted = framed("frame 2 1 2;plan 1 0 0;plan 1 1 1;letter 0;letter 1");
    Check.rule(noted, "take code + 1");
    for (int n : new int[] {1, 59, 60}) {
      noted.note(n, 0, 1);
      due("behind TURN 0, NOTES told of later ones", noted.look(0, 1), 1);
    }
    PostFrame seven = framed("frame 2 1 2;plan 0 0 1;letter 0");
    for (int rule = 0; rule < 6; rule++) Check.rule(seven, "take 1 if turn = " + (rule < 3 ? 0 : 1));
    due("of seven four are alike", seven.look(0, 1), 4);
    due("where", seven.look(0, 0), 1);
    due("all seven are alike", seven.look(1, 1), 7);
    due("the least HOLE", seven.look(1, 0), 0);
    PostFrame six = Twins.full();
    due("note", six.note(NONE, 0, 0), 0);
    same("look", Twins::full, y -> y.look(0, 0), six.ruled(0) > 0 ? Twins.full().look(0, 0) : -2);
  }

  // ---------------------------------------------------------------- 36 to 40

  private static void p36() {
    promise(36, "seed");
    for (int x : new int[] {-1, LOW}) refusedBy("seed " + x, y -> y.seed(x), NONE);
    PostFrame x = new PostFrame();
    due("0 at first", x.seed(0), 0);
    due("seed", x.seed(1), 0);
    due("seed", x.seed(HIGH), 1);
    due("the greatest", x.count(13), HIGH);
    due("seed", x.seed(HIGH - 1), HIGH);
    due("seed", x.seed(0), HIGH - 1);
    due("x", x.count(13), 0);
  }

  private static void p37() {
    promise(37, "posts");
    int[][] wrong = {{0, 1, 0, 0}, {11, 1, 0, 0}, {-1, 1, 0, 0}, {1, 0, 0, 0}, {1, 61, 0, 0}, {1, -1, 0, 0}, {1, 1, -1, 0}, {1, 1, 101, 0},
      {1, 1, 0, -1}, {1, 1, 0, 2}, {LOW, 1, 0, 0}, {HIGH, 1, 0, 0}, {1, LOW, 0, 0}, {1, HIGH, 0, 0}, {1, 1, LOW, 0}, {1, 1, HIGH, 0},
      {1, 1, 0, LOW}, {1, 1, 0, HIGH}};
    for (int[] w : wrong) {
      refusedBy("posts " + w[0] + " " + w[1] + " " + w[2] + " " + w[3], y -> y.posts(w[0], w[1], w[2], w[3]), NONE);
    }
    due("without a FRAME", new PostFrame().posts(1, 1, 0, 0), NONE);
    PostFrame x = shaped(2, 1, 1);
    due("least", x.posts(1, 1, 0, 1), 0);
    due("most, all LOST", x.posts(10, 60, 100, 1), 600);
    due("most, none TIED", x.posts(10, 60, 100, 0), 0);
    due("none posted", x.posts(10, 60, 0, 1), 0);
    x.enter(0, 0, 0);
    due("most, a BAG each 5", x.posts(10, 60, 100, 0), 110);
    due("most, none LOST", x.posts(10, 60, 100, 1), 0);
    for (int i = 0; i < 20; i++) x.post(0);
    // twenty wait ahead of the first TURN: that LETTER does not come, the others do
    due("twenty wait", x.posts(1, 20, 100, 0), 3);
    due("twenty wait", x.posts(10, 60, 100, 0), 110);
    PostFrame full = ruled("frame 2 1 1", "take 1 if waiting > 19");
    due("twenty at last: from the twentieth on one goes", full.posts(1, 60, 100, 1), 41);
    Check.rule(full, "take 1 if waiting > 20");
    full.force(1);
    due("never more", full.posts(1, 60, 100, 1), 0);
    draws();
    same("x as it was, nothing stays", Twins::rich, y -> Math.min(0, y.posts(10, 60, 100, 1)), 0);
  }

  /** By no ENTRY every LETTER that comes is LOST, by one ENTRY that CODE is not. */
  private static void draws() {
    for (int seed : new int[] {0, 1, 2, 12345, 1073741823, 1073741824, HIGH - 1, HIGH}) {
      java.math.BigInteger next = java.math.BigInteger.valueOf(seed).multiply(java.math.BigInteger.valueOf(1103515245))
          .add(java.math.BigInteger.valueOf(12345)).mod(java.math.BigInteger.ONE.shiftLeft(31));
      int percent = next.intValue() / 65536 % 100;
      int code = next.multiply(java.math.BigInteger.valueOf(1103515245)).add(java.math.BigInteger.valueOf(12345))
          .mod(java.math.BigInteger.ONE.shiftLeft(31)).intValue() / 65536 % 256;
      PostFrame x = shaped(4, 4, 1);
      x.seed(seed);
      due("not below p, x " + seed, x.posts(1, 1, percent, 1), 0);
      due("below p, x " + seed, x.posts(1, 1, percent + 1, 1), 1);
      x.enter(4, code, 0);
      due("the CODE " + code + ", x " + seed, x.posts(1, 1, 100, 1), 0);
      due("x stays", x.count(13), seed);
    }
  }

  private static void p38() {
    promise(38, "count");
    for (int what : new int[] {LOW, -1, 15, 16, HIGH}) refusedBy("count " + what, y -> y.count(what), NONE);
    int[] most = {4, 3, 2, 12, 20, 6, 5, 6, 6, 0, 0, 10, 20, HIGH, 400};
    PostFrame x = Twins.full();
    for (int what : new int[] {0, 1, 2, 3, 4, 5, 6, 7, 11, 12, 13, 14}) due("count " + what, x.count(what), most[what]);
    due("LETTERS, those of BAGS and LOST ones", x.count(8) + x.count(9) + x.count(10), 6);
    PostFrame y = framed("frame 4 4 6");
    due("RADIX", y.count(0), 4);
    due("LONG", y.count(1), 4);
    due("HOLES", y.count(2), 6);
    due("IN FORCE", y.count(6), NONE);
    for (int what : new int[] {3, 4, 5, 7, 8, 9, 10, 11, 12, 13, 14}) due("count " + what, y.count(what), 0);
    PostFrame z = framed("frame 2 1 6;plan 0 0 5;plan 1 1 0;room 5 1;letter 0;letter 0;letter 1;letter 0");
    for (int i = 0; i < 4; i++) z.turn();
    due("LETTERS in all HOLES", z.count(8), 2);
    due("BAGS of all", z.count(9), 2);
  }

  private static void p39() {
    promise(39, "image");
    for (int k : new int[] {LOW, -1, 4, HIGH}) refusedBy("image " + k, y -> y.image(k), NONE);
    PostFrame x = framed(Twins.SMALL);
    for (int k = 0; k < 4; k++) {
      due("image", x.image(k), k);
      due("turn", x.turn() >= 0 ? 1 : 0, 1);
    }
    due("an IMAGE is no ACT", x.count(12), 4);
    for (int k = 3; k >= 0; k--) {
      due("back", x.back(k), k);
      due("TURN", x.count(7), k);
      due("wait", x.count(4), 5 - k);
    }
    for (int i = 0; i < 5; i++) x.turn();
    due("in place of the one there was", x.image(2), 5);
    due("another stays", x.back(3), 3);
    due("back", x.back(2), 5);
    due("without a FRAME", new PostFrame().image(3), 0);
  }

  private static void p40() {
    promise(40, "back");
    for (int k : new int[] {LOW, -1, 4, HIGH}) refusedBy("back " + k, y -> y.back(k), NONE);
    for (int k = 0; k < 4; k++) {
      int image = k;
      same("back(" + k + ")", PostFrame::new, y -> y.back(image), NONE);
    }
    same("never made", Twins::rich, y -> y.back(0), NONE);
    same("never made", Twins::rich, y -> y.back(2), NONE);
    PostFrame x = Twins.rich();
    int bytes = x.count(14);
    x.image(2);
    int[] before = new int[15];
    for (int what = 0; what < 15; what++) before[what] = x.count(what);
    Check.frame(x, "frame 4 4 6;letter 255;plan 0 0 5");
    Check.rule(x, "take 3");
    x.force(2);
    x.seed(5);
    x.turn();
    x.note(4, 5, 6);
    x.note(5, 4, 7);
    x.note(6, 5, 8);
    x.feed(1, 2, 3, 4, 5);
    due("back", x.back(2), 3);
    for (int what = 0; what < 15; what++) {
      int want = what == 5 ? 3 : what == 12 ? 0 : what == 14 ? 20 : before[what];
      due("count " + what, x.count(what), want);
    }
    due("bytes were others", bytes == 20 ? 1 : 0, 0);
    due("nothing can be UNDONE", x.undo(), NONE);
    due("turn", x.turn() >= 0 ? 1 : 0, 1);
    due("an ACT behind that", x.undo(), 0);
    due("once more", x.back(2), 3);
    due("no FRAME then", noFrame().turn(), NONE);
    // behind TURN 0 (1, 0) lie in the HOLES, behind TURN 1 (2, 0): of a NOTE the TURN, the HOLE, how many come back
    int[][] notes = {{1, 0, 2, 0, 0, 2}, {0, 0, 1, 0, 1, 1}, {0, 0, 1, 0, 0, 0}};
    for (int[] n : notes) {
      PostFrame y = framed("frame 2 1 2;plan 1 0 0;plan 1 1 1;letter 0;letter 0;letter 1");
      y.note(n[0], n[1], n[2]);
      y.image(0);
      y.note(NONE, 0, 0);
      y.note(n[3], n[4], n[5]);
      due("a NOTE that is not so", y.ruled(0), 0);
      y.back(0);
      due("the NOTE of the IMAGE", y.ruled(0), 1);
    }
  }

  private static PostFrame noFrame() {
    PostFrame x = new PostFrame();
    due("image of no FRAME", x.image(0), 0);
    due("frame", Check.frame(x, Twins.SMALL), 3);
    due("turn", x.turn(), 0);
    due("back", x.back(0), 0);
    return x;
  }

  /** By what is asked nothing changes. */
  private static void asked() {
    CHECK.part("promises 7 to 9, 16 to 35, 37 and 38, by what is asked nothing changes");
    for (Supplier<PostFrame> maker : java.util.List.<Supplier<PostFrame>>of(PostFrame::new, Twins::rich, Twins::full)) {
      same("all that is asked", maker, BoundariesTest::askAll, 0);
    }
  }

  private static int askAll(PostFrame x) {
    for (int what = 0; what < 5; what++) {
      x.one(what);
      x.change(what);
      x.ahead(0, 40, what);
      x.said(0, what);
      x.ruled(what);
      x.look(40, what);
      x.posts(3, 30, 60, what);
      x.read(99, what);
    }
    x.hole(0, 0);
    x.entry(0, 0);
    x.waits(0);
    x.where(0, 0);
    x.may(99);
    x.codes(0, 0);
    x.slips(0);
    x.worst(0);
    x.idle();
    x.least();
    x.sorted();
    x.tied(0);
    x.enough(0, 40);
    x.sent(0);
    x.pence(9999, 0);
    x.count(0);
    return 0;
  }

  public static void main(String[] args) {
    p1();
    p2();
    p3();
    p4();
    p5();
    p6();
    p7();
    p8();
    p9();
    p10();
    p11();
    p12();
    p13();
    p14();
    p15();
    p16();
    p17();
    p18();
    p19();
    p20();
    p21();
    p22();
    p23();
    p24();
    p25();
    p26();
    p27();
    p28();
    p29();
    p30();
    p31();
    p32();
    p33();
    p34();
    p35();
    p36();
    p37();
    p38();
    p39();
    p40();
    asked();
    CHECK.end();
  }
}
