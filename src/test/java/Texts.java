import java.util.ArrayList;
import java.util.Collections;
import java.util.List;
import java.util.Random;

/** Makes texts of FRAMES and RULES, good ones and ones with faults. */
final class Texts {
  private static final String[] WORDS = {
    "place", "code", "first", "last", "hole", "lying", "room", "fit", "waiting", "bags", "turn"
  };
  private static final String[] SIGNS = {"<", "<=", "=", ">=", ">"};
  private static final String[] JOINS = {"+", "-", "*", "/", "%"};
  private static final String BYTES = " ;[]<>=+-*/%0123456789abefilmnoprtx\u0000A\u00ff";

  private final Random random;
  private final StringBuilder out = new StringBuilder();

  Texts(Random random) {
    this.random = random;
  }

  private boolean chance(int percent) {
    return random.nextInt(100) < percent;
  }

  private static int power(int base, int exponent) {
    int p = 1;
    for (int i = 0; i < exponent; i++) p *= base;
    return p;
  }

  /** A FRAME, most often one without a fault. */
  String frame() {
    int radix = 2 + random.nextInt(3);
    int length = 1 + random.nextInt(4);
    int holes = chance(70) ? 2 + random.nextInt(5) : 1 + random.nextInt(6);
    int off = chance(8) ? 2 : 0;
    List<String> clauses = new ArrayList<>();
    for (int i = random.nextInt(5); i > 0; i--) {
      clauses.add("room " + random.nextInt(holes + off) + " " + (1 + random.nextInt(chance(70) ? 3 : 20 + off)));
    }
    for (int i = chance(8) ? 12 + off : random.nextInt(9); i > 0; i--) {
      int digits = Math.max(0, random.nextInt(length + 1 + off) - random.nextInt(2));
      clauses.add("plan " + digits + " " + random.nextInt(power(radix, digits) + off) + " " + random.nextInt(holes + off));
    }
    for (int i = chance(25) ? 12 + off : random.nextInt(13); i > 0; i--) {
      clauses.add("letter " + random.nextInt(power(radix, length) + off));
    }
    Collections.shuffle(clauses, random);
    clauses.add(chance(off) ? 1 : 0, "frame " + radix + " " + length + " " + holes);
    return finish(clauses);
  }

  /** A RULE, most often one without a fault. */
  String rule() {
    List<String> clauses = new ArrayList<>();
    int many = chance(5) ? 11 + random.nextInt(3) : 1 + random.nextInt(3);
    int deep = chance(10) ? 12 : 2;
    int wide = chance(10) ? 9 : 2;
    for (int i = 0; i < many; i++) {
      out.setLength(0);
      out.append("take ");
      sum(many > 5 ? 1 : wide);
      if (chance(i == many - 1 ? 30 : 85)) {
        out.append(" if ");
        test(deep, many > 5 ? 1 : wide);
      }
      clauses.add(out.toString());
    }
    return finish(clauses);
  }

  /** A RULE in which one limit is just met, or just not. */
  String edgeRule() {
    int more = random.nextInt(3);
    StringBuilder b = new StringBuilder();
    switch (random.nextInt(4)) {
      case 0 -> {
        b.append("take 1 if ");
        int deep = 9 + more;
        for (int i = 0; i < deep; i++) b.append(chance(50) ? "[" : "not ");
        b.append("code=1");
        String open = b.toString();
        for (int i = 0; i < open.length(); i++) if (open.charAt(i) == '[') b.append(']');
      }
      case 1 -> {
        b.append("take 1");
        for (int i = 0; i < 58 + more; i++) b.append('+').append(chance(50) ? "fit" : "2");
      }
      case 2 -> {
        b.append("take 1 if 1<2");
        for (int i = 0; i < 19; i++) b.append(chance(50) ? " or " : " and ").append(i % 3).append(chance(50) ? "<=" : "=").append(i % 2);
        for (int i = 0; i < more; i++) b.append("*3");
      }
      default -> {
        b.append("take place");
        for (int i = 0; i < 10 + more; i++) b.append(";take ").append(i).append(chance(50) ? " if turn>1" : "");
      }
    }
    return b.toString();
  }

  /** A FRAME in which one limit is just met, or just not. */
  String edgeFrame() {
    int more = random.nextInt(3);
    StringBuilder b = new StringBuilder("frame 4 4 6");
    switch (random.nextInt(3)) {
      case 0 -> {
        for (int i = 0; i < 38 + more; i++) b.append(";room").append(i % 6).append(' ').append(1 + i % 20);
      }
      case 1 -> {
        for (int i = 0; i < 11 + more; i++) b.append(";plan ").append(2).append(' ').append(i).append(' ').append(i % 6);
        b.append(";plan 2 3 5;letter 7");
      }
      default -> {
        for (int i = 0; i < 11 + more; i++) b.append(";letter ").append(i * 21 % 256);
      }
    }
    return b.toString();
  }

  private void test(int deep, int wide) {
    int facts = 1 + (chance(40) ? random.nextInt(wide + 1) : 0);
    for (int i = 0; i < facts; i++) {
      if (i > 0) out.append(chance(50) ? " or " : " and ");
      fact(deep, wide);
    }
  }

  private void fact(int deep, int wide) {
    if (deep > 0 && chance(deep > 5 ? 80 : 25)) {
      if (chance(50)) {
        out.append("not ");
        fact(deep - 1, wide);
      } else {
        out.append("[");
        test(deep - 1, deep > 5 ? 0 : wide);
        out.append("]");
      }
      return;
    }
    sum(wide);
    out.append(SIGNS[random.nextInt(5)]);
    sum(wide);
  }

  private void sum(int wide) {
    int values = 1 + random.nextInt(wide + 1);
    for (int i = 0; i < values; i++) {
      if (i > 0) out.append(JOINS[random.nextInt(5)]);
      if (chance(35)) {
        out.append(chance(90) ? random.nextInt(6) : random.nextInt(chance(10) ? 1000000 : 100000));
      } else {
        out.append(WORDS[random.nextInt(WORDS.length)]);
      }
    }
  }

  private String finish(List<String> clauses) {
    StringBuilder b = new StringBuilder(String.join(chance(20) ? " ; " : ";", clauses));
    if (chance(20)) spread(b);
    if (chance(10)) spoil(b);
    if (b.length() > 400) b.setLength(400);
    return b.toString();
  }

  /** Puts blanks where they change nothing: beside signs. */
  private void spread(StringBuilder b) {
    for (int i = b.length(); i >= 0; i--) {
      boolean inside = i > 0 && i < b.length() && "<>".indexOf(b.charAt(i - 1)) >= 0 && b.charAt(i) == '=';
      boolean besideSign = i == 0 || i == b.length() || " ;[]+-*/%<>=".indexOf(b.charAt(i)) >= 0;
      if (besideSign && !inside && chance(20)) b.insert(i, ' ');
    }
  }

  private void spoil(StringBuilder b) {
    int at = random.nextInt(b.length());
    char sign = BYTES.charAt(random.nextInt(BYTES.length()));
    switch (random.nextInt(4)) {
      case 0 -> b.deleteCharAt(at);
      case 1 -> b.insert(at, sign);
      case 2 -> b.setCharAt(at, sign);
      default -> b.setLength(at);
    }
  }
}
