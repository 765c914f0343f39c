import java.util.ArrayList;
import java.util.Arrays;
import java.util.HashMap;
import java.util.List;
import java.util.Map;
import java.util.Random;

/** LEAST by trying every PLAN of a small frame, the ones of fewest ENTRIES first. */
public final class LeastTest {
  private static final Check CHECK = new Check("LeastTest");

  private final int radix;
  private final int length;
  private final int holes;
  private final int codes;
  /** DIGITS and PREFIX of all ENTRIES that there can be, shortest first. */
  private final List<int[]> nodes = new ArrayList<>();
  /** The fewest ENTRIES, by where all CODES go. */
  private final Map<String, Integer> fewest = new HashMap<>();

  private LeastTest(int radix, int length, int holes) {
    this.radix = radix;
    this.length = length;
    this.holes = holes;
    for (int d = 0, many = 1; d <= length; d++, many *= radix) {
      for (int p = 0; p < many; p++) nodes.add(new int[] {d, p});
    }
    codes = power(length);
    int[] goal = new int[codes];
    Arrays.fill(goal, -1);
    tryAll(0, 0, goal);
  }

  private int power(int exponent) {
    int p = 1;
    for (int i = 0; i < exponent; i++) p *= radix;
    return p;
  }

  private void tryAll(int node, int entries, int[] goal) {
    if (node == nodes.size()) {
      fewest.merge(Arrays.toString(goal), entries, Math::min);
      return;
    }
    tryAll(node + 1, entries, goal);
    int span = power(length - nodes.get(node)[0]);
    int from = nodes.get(node)[1] * span;
    for (int h = 0; h < holes; h++) {
      int[] next = goal.clone();
      Arrays.fill(next, from, from + span, h);
      tryAll(node + 1, entries + 1, next);
    }
  }

  private void run(Random random, int times) {
    CHECK.part("promise 23, radix " + radix + ", long " + length + ", holes " + holes);
    for (int i = 0; i < times; i++) {
      PostFrame x = Check.framed("frame " + radix + " " + length + " " + holes);
      for (int[] node : nodes) {
        if (random.nextInt(100) < 60) x.enter(node[0], node[1], random.nextInt(holes));
      }
      int[] goal = new int[codes];
      for (int c = 0; c < codes; c++) goal[c] = Math.max(-1, x.where(c, 0));
      CHECK.due("least of " + Arrays.toString(goal), x.least(), fewest.get(Arrays.toString(goal)));
    }
  }

  public static void main(String[] args) {
    Random random = new Random(23);
    new LeastTest(2, 1, 6).run(random, 40);
    new LeastTest(4, 1, 4).run(random, 80);
    new LeastTest(2, 2, 3).run(random, 120);
    new LeastTest(2, 2, 6).run(random, 120);
    new LeastTest(3, 2, 1).run(random, 120);
    CHECK.end();
  }
}
