/** Counts answers that are not as due, and tells texts to a PostFrame. */
final class Check {
  private final String name;
  private int wrong;
  private int asked;
  private String part = "";

  Check(String name) {
    this.name = name;
  }

  void part(String newPart) {
    part = newPart;
  }

  void due(String call, long got, long want) {
    asked++;
    if (got != want) {
      wrong++;
      System.out.println(name + ", " + part + ": " + call + " answered " + got + ", due is " + want);
    }
  }

  void end() {
    System.out.println(name + ": " + asked + " answers, " + wrong + " not as due");
    if (wrong > 0) System.exit(1);
  }

  /** The TAPE is this text alone. */
  static void tape(PostFrame x, String text) {
    x.end(0);
    for (int i = 0; i < text.length(); i += 20) {
      int[] n = new int[5];
      for (int j = 0; j < 20; j++) {
        n[j / 4] = n[j / 4] << 8 | (i + j < text.length() ? text.charAt(i + j) : 0);
      }
      x.feed(n[0], n[1], n[2], n[3], n[4]);
    }
    x.end(text.length());
  }

  static int frame(PostFrame x, String text) {
    tape(x, text);
    return x.frame();
  }

  static int rule(PostFrame x, String text) {
    tape(x, text);
    return x.rule();
  }

  static PostFrame framed(String text) {
    PostFrame x = new PostFrame();
    frame(x, text);
    return x;
  }

  /** What a text with this FAULT answers. */
  static int fault(int place, int kind) {
    return -2 - (1 + 8 * place + kind);
  }
}
