/** FAULTS of FRAMES and RULES: of each text the place and the kind. */
public final class FaultsTest {
  private static final Check CHECK = new Check("FaultsTest");

  private static void frame(String text, int place, int kind) {
    PostFrame x = new PostFrame();
    CHECK.due("frame of '" + text + "'", Check.frame(x, text), Check.fault(place, kind));
    CHECK.due("RADIX behind '" + text + "'", x.count(0), 0);
  }

  private static void goodFrame(String text, int entries) {
    CHECK.due("frame of '" + text + "'", Check.frame(new PostFrame(), text), entries);
  }

  private static void rule(String text, int place, int kind) {
    PostFrame x = new PostFrame();
    CHECK.due("rule of '" + text + "'", Check.rule(x, text), Check.fault(place, kind));
    CHECK.due("RULES behind '" + text + "'", x.count(5), 0);
  }

  private static void goodRule(String text) {
    CHECK.due("rule of '" + text + "'", Check.rule(new PostFrame(), text), 0);
  }

  private static void frames() {
    CHECK.part("promise 4, FAULTS of a FRAME");
    frame("", 0, 0);
    frame("   ", 3, 0);
    frame("frame", 5, 0);
    frame("frames 2 1 1", 0, 0);
    frame("framea 2 1 1", 0, 0);
    frame("framez 2 1 1", 0, 0);
    frame("Frame 2 1 1", 0, 0);
    frame("fram 2 1 1", 0, 0);
    frame("2 1 1", 0, 0);
    frame(";frame 2 1 1", 0, 0);
    frame("frame 2", 7, 0);
    frame("frame 2 1 ", 10, 0);
    frame("frame 1 1 1", 6, 1);
    frame("frame 5 1 1", 6, 1);
    frame("frame 2 0 1", 8, 1);
    frame("frame 2 5 1", 8, 1);
    frame("frame 2 1 0", 10, 1);
    frame("frame 2 1 7", 10, 1);
    frame("frame 000002 1 1", 6, 1);
    frame("frame 211", 6, 1);
    frame("frame -2 1 1", 6, 0);
    frame("frame 2 x 1", 8, 0);
    frame("frame 2,1 1", 7, 0);
    frame("frame 2 1 1;", 12, 0);
    frame("frame 2 1 1 ;  ", 15, 0);
    frame("frame 2 1 1 1", 12, 0);
    frame("frame 2 1 1;;room 0 1", 12, 0);
    frame("frame 2 1 1\0", 11, 0);
    frame("frame 2 1 1\u00ff", 11, 0);
    frame("frame 2 1 1 room 0 1", 12, 0);
    goodFrame("frame 2 1 1", 0);
    goodFrame("  frame2 1   1  ", 0);
    goodFrame("frame 00002 00004 00006", 0);
    goodFrame("frame 4 4 6;room5 20;plan 4 255 5;letter255", 1);
  }

  private static void clauses() {
    CHECK.part("promise 4, FAULTS of CLAUSES");
    frame("room 0 1", 0, 4);
    frame(" plan 0 0 0", 1, 4);
    frame("letter 0", 0, 4);
    frame("letter x", 0, 4);
    frame("frame 2 1 1;frame 2 1 1", 12, 4);
    frame("frame 2 1 1; frame", 13, 4);
    frame("frame 2 1 1;take 1", 12, 0);
    frame("frame 2 1 1;room 1 1", 17, 1);
    frame("frame 2 1 1;room 0 0", 19, 1);
    frame("frame 2 1 1;room 0 21", 19, 1);
    frame("frame 2 1 1;room 0", 18, 0);
    frame("frame 2 1 1;rooms 0 1", 12, 0);
    frame("frame 2 1 1;plan 2 0 0", 17, 1);
    frame("frame 2 1 1;plan 1 2 0", 19, 1);
    frame("frame 2 1 1;plan 0 1 0", 19, 1);
    frame("frame 2 1 1;plan 1 0 1", 21, 1);
    frame("frame 2 1 1;plan 1 0", 20, 0);
    frame("frame 2 1 1;letter 2", 19, 1);
    frame("frame 2 1 1;letter", 18, 0);
    frame("frame 3 2 1;letter 9", 19, 1);
    goodFrame("frame 3 2 1;letter 8", 0);
    goodFrame("frame 2 1 1;plan 0 0 0;plan 0 0 0", 1);

    String rooms = "frame 2 1 1" + ";room0 1".repeat(39);
    goodFrame(rooms, 0);
    frame(rooms + ";room0 1", rooms.length() + 1, 4);
    frame(rooms + ";frame", rooms.length() + 1, 4);
    frame(rooms + ";rum", rooms.length() + 1, 0);
    frame(rooms + ";", rooms.length() + 1, 0);

    StringBuilder plan = new StringBuilder("frame 4 4 1");
    for (int i = 0; i < 12; i++) plan.append(";plan 2 ").append(i).append(" 0");
    goodFrame(plan.toString(), 12);
    goodFrame(plan + ";letter 1", 12);
    frame(plan + ";plan 2 12 0", plan.length() + 1, 4);
    frame(plan + "; plan 2 3 0", plan.length() + 2, 4);
    frame(plan + ";plan", plan.length() + 1, 4);

    String letters = "frame 4 4 1" + ";letter 9".repeat(12);
    goodFrame(letters, 0);
    goodFrame(letters + ";plan 0 0 0", 1);
    frame(letters + ";letter 300", letters.length() + 1, 4);
  }

  private static void rules() {
    CHECK.part("promise 5, FAULTS of a RULE");
    rule("", 0, 0);
    rule("take", 4, 0);
    rule("takes 1", 0, 0);
    rule("take x", 5, 0);
    rule("take take", 5, 0);
    rule("take codes", 5, 0);
    rule("take codea", 5, 0);
    rule("take codez", 5, 0);
    rule("take 123456", 5, 1);
    rule("take 1;", 7, 0);
    rule("take 1;;take 1", 7, 0);
    rule("take 1 take 1", 7, 0);
    rule("take 1 2", 7, 0);
    rule("take code 2", 10, 0);
    rule("take 5 %", 8, 0);
    rule("take + 5", 5, 0);
    rule("take -5", 5, 0);
    rule("take 1+", 7, 0);
    rule("take 1+*2", 7, 0);
    rule("take (1)", 5, 0);
    rule("take 1 if", 9, 0);
    rule("take 1 iff 1=1", 7, 0);
    rule("take 1 if code", 14, 0);
    rule("take 1 if code;take 1", 14, 0);
    rule("take 1 if code =", 16, 0);
    rule("take 1 if code = = 1", 17, 0);
    rule("take 1 if code < = 1", 17, 0);
    rule("take 1 if code => 1", 16, 0);
    rule("take 1 if code = 1]", 18, 0);
    rule("take 1 if [code = 1", 19, 0);
    rule("take 1 if [code = 1;take 2", 19, 0);
    rule("take 1 if [code] = 1", 15, 0);
    rule("take 1 if code = 1 = 1", 19, 0);
    rule("take 1 if code = 1 and", 22, 0);
    rule("take 1 if code = 1 andy 1 = 1", 19, 0);
    rule("take 1 if not", 13, 0);
    rule("take 1 if not code", 18, 0);
    rule("take 1 if if", 10, 0);
    rule("take 1 if []", 11, 0);
    rule("take 1 if 1=1 xor 1=1", 14, 0);
    goodRule("take 99999");
    goodRule("take1if1=1or2>=2and3<=3;take code*room/fit%lying");
    goodRule(" take place + code - first * last / hole % lying + room + fit + waiting + bags + turn ");
    goodRule("take 1 if not[not 1<2 or[1>2]]and 3=3");
  }

  private static void limits() {
    CHECK.part("promise 5, limits of a RULE");
    String nots = "take 1 if " + "not ".repeat(10);
    goodRule(nots + "1=1");
    rule(nots + "not 1=1", nots.length(), 2);
    rule(nots + "[1=1]", nots.length(), 2);
    String opens = "take 1 if " + "[".repeat(10);
    goodRule(opens + "1=1" + "]".repeat(10));
    goodRule(opens + "1=1" + "]".repeat(10) + " and not 1=1 or [1=1]");
    rule(opens + "[1=1" + "]".repeat(11), opens.length(), 2);
    rule(opens + " not 1=1" + "]".repeat(10), opens.length() + 1, 2);
    goodRule("take 1 if " + "not [".repeat(5) + "1=1" + "]".repeat(5));
    rule("take 1 if " + "not [".repeat(5) + "not 1=1" + "]".repeat(5), 35, 2);
    goodRule("take 1 if [" + "not ".repeat(9) + "1=1] and [" + "not ".repeat(9) + "1=1]");

    String sixty = "take 1" + "+1".repeat(59);
    goodRule(sixty);
    rule(sixty + "+1", sixty.length() + 1, 3);
    rule(sixty + " + code", sixty.length() + 3, 3);
    rule(sixty + "+123456", sixty.length() + 1, 1);
    rule(sixty + "+codes", sixty.length() + 1, 0);
    rule(sixty + ";take 1", sixty.length() + 6, 3);
    String more = "take 1" + "+1".repeat(57) + " if 1";
    goodRule("take 1" + "+1".repeat(56) + " if 1=1");
    rule(more + "=1", more.length() + 1, 3);
    rule(more + "+1=1", more.length() + 2, 3);
    rule(more + "+1 !", more.length() + 3, 0);

    String twelve = "take 1" + ";take 1".repeat(11);
    goodRule(twelve);
    rule(twelve + ";take 1", twelve.length() + 1, 4);
    rule(twelve + "; take", twelve.length() + 2, 4);
    rule(twelve + ";tale 1", twelve.length() + 1, 0);
    rule(twelve + ";", twelve.length() + 1, 0);
  }

  public static void main(String[] args) {
    frames();
    clauses();
    rules();
    limits();
    CHECK.end();
  }
}
