import java.lang.reflect.Method;
import java.util.ArrayList;
import java.util.Arrays;
import java.util.HashMap;
import java.util.List;
import java.util.Map;
import java.util.Random;

/** Long runs of calls, drawn from fixed seeds, each answered by PostFrame as by Model. */
public final class RunsTest {
  private static final int RUNS = 500;
  private static final Map<String, Method> REAL = methods(PostFrame.class);
  private static final Map<String, Method> MODEL = methods(Model.class);

  private final Random random;
  private final Texts texts;
  private final List<String> told = new ArrayList<>();
  private PostFrame real = new PostFrame();
  private Model model = new Model();
  private boolean wrong;
  private int calls;

  private RunsTest(long seed) {
    random = new Random(seed);
    texts = new Texts(random);
  }

  private static Map<String, Method> methods(Class<?> type) {
    Map<String, Method> found = new HashMap<>();
    for (Method m : type.getDeclaredMethods()) {
      if (!java.lang.reflect.Modifier.isPrivate(m.getModifiers()) && !m.isSynthetic()) {
        m.setAccessible(true);
        found.put(m.getName(), m);
      }
    }
    return found;
  }

  private int call(String name, Integer... args) {
    calls++;
    try {
      Object got = REAL.get(name).invoke(real, (Object[]) args);
      Object due = MODEL.get(name).invoke(model, (Object[]) args);
      told.add(name + Arrays.toString(args) + " " + got);
      if (!got.equals(due)) {
        wrong = true;
        told.add("  due is " + due);
      }
      return (Integer) due;
    } catch (ReflectiveOperationException e) {
      wrong = true;
      told.add(name + Arrays.toString(args) + " threw " + e.getCause());
      return -1;
    }
  }

  private void tell(String text) {
    told.add("  text: " + text);
    call("end", 0);
    for (int i = 0; i < text.length() && i < 400; i += 20) {
      Integer[] n = new Integer[5];
      for (int k = 0; k < 5; k++) {
        n[k] = 0;
        for (int j = 0; j < 4; j++) {
          int at = i + 4 * k + j;
          n[k] = n[k] << 8 | (at < text.length() ? text.charAt(at) : 0);
        }
      }
      call("feed", n);
    }
    call("end", Math.min(text.length(), 400));
  }

  private boolean chance(int percent) {
    return random.nextInt(100) < percent;
  }

  /** A number from 0 to most, now and then one beyond. */
  private int pick(int most) {
    if (chance(93)) return random.nextInt(Math.max(1, most + 1));
    int[] odd = {-1, -2, most + 1, most + 2, Integer.MAX_VALUE, Integer.MIN_VALUE, 0, most};
    return odd[random.nextInt(odd.length)];
  }

  private int hole() {
    return pick(Math.max(0, model.count(2) - 1));
  }

  private int codesMost() {
    int codes = 1;
    for (int i = 0; i < model.count(1); i++) codes *= model.count(0);
    return codes - 1;
  }

  private int reading() {
    if (chance(10)) return pick(10000);
    int r = 0;
    for (int i = 0; i < model.count(1); i++) {
      r = r * 10 + (chance(50) ? 9 : random.nextInt(Math.max(1, model.count(0) + (chance(3) ? 1 : 0))));
    }
    return r;
  }

  private void tellFrame() {
    tell(chance(6) ? texts.edgeFrame() : texts.frame());
    if (call("frame") < 0 || chance(40)) return;
    for (int i = random.nextInt(4); i > 0; i--) {
      int n = random.nextInt(chance(80) ? 12 : 61);
      int h = random.nextInt(model.count(2));
      call("note", n, h, chance(95) ? call("ahead", h, n + 1, 0) : random.nextInt(3));
    }
  }

  private void tellRule() {
    tell(chance(20) ? texts.edgeRule() : texts.rule());
    int made = call("rule");
    if (made >= 0 && chance(50)) call("force", made);
  }

  private void act() {
    switch (random.nextInt(14)) {
      case 0, 1, 2, 3, 4 -> call("turn");
      case 5, 6, 7 -> call("post", pick(codesMost()));
      case 8 -> call("tie", hole());
      case 9, 10 -> {
        int digits = pick(model.count(1));
        int prefixes = 1;
        for (int i = 0; i < digits && i < 5; i++) prefixes *= model.count(0);
        call("enter", digits, pick(prefixes - 1), hole());
      }
      case 11 -> call("strike", pick(Math.max(0, model.count(3) - 1)));
      default -> call("undo");
    }
  }

  /** The same again and again, so that limits are met. */
  private void burst() {
    int kind = random.nextInt(6);
    int times = 5 + random.nextInt(20);
    for (int i = 0; i < times && !wrong; i++) {
      switch (kind) {
        case 0, 1 -> call("turn");
        case 2 -> call("post", pick(codesMost()));
        case 3 -> call("undo");
        case 4 -> call("note", chance(90) ? 0 : pick(60), hole(), chance(90) ? 0 : pick(20));
        default -> call("enter", model.count(1), pick(codesMost()), hole());
      }
    }
  }

  private void askPlan() {
    switch (random.nextInt(12)) {
      case 0 -> call("where", pick(codesMost()), pick(1));
      case 1 -> call("may", reading());
      case 2, 3 -> {
        int reading = reading();
        call("read", reading, pick(1));
        call("read", reading, 1);
      }
      case 4 -> call("codes", chance(20) ? -1 : hole(), pick(1));
      case 5 -> call("slips", pick(codesMost()));
      case 6 -> call("worst", pick(1));
      case 7 -> call("idle");
      case 8 -> call("least");
      case 9, 10 -> call("one", pick(4));
      default -> call("change", pick(2));
    }
  }

  private void askOn() {
    switch (random.nextInt(13)) {
      case 0, 1 -> call("ahead", hole(), pick(chance(70) ? 15 : 100), pick(3));
      case 2 -> call("sorted");
      case 3 -> call("tied", hole());
      case 4 -> call("enough", hole(), pick(40));
      case 5 -> call("said", pick(11), pick(1));
      case 6 -> call("sent", pick(chance(50) ? 4 : 11));
      case 7 -> call("pence", pick(9999), hole());
      case 8 -> call("note", chance(20) ? -1 : pick(chance(60) ? 10 : 60), hole(), pick(chance(80) ? 3 : 20));
      case 9 -> call("ruled", pick(1));
      case 10 -> call("look", pick(60), pick(1));
      case 11 -> call("posts", pick(10), pick(60), pick(100), pick(1));
      default -> call("seed", random.nextInt());
    }
  }

  private void askState() {
    switch (random.nextInt(6)) {
      case 0 -> call("hole", hole(), pick(2));
      case 1 -> call("entry", pick(11), pick(2));
      case 2 -> call("waits", pick(19));
      case 3 -> call("count", pick(14));
      case 4 -> call("force", chance(30) ? -1 : pick(5));
      default -> call(chance(40) ? "image" : "back", pick(chance(60) ? 0 : 3));
    }
  }

  private void askAll() {
    for (int what = -1; what <= 15; what++) call("count", what);
    for (int h = 0; h < model.count(2); h++) {
      for (int what = 0; what < 3; what++) call("hole", h, what);
    }
    for (int e = 0; e < model.count(3); e++) {
      for (int what = 0; what < 3; what++) call("entry", e, what);
    }
    for (int p = 0; p <= model.count(4); p++) call("waits", p);
  }

  private boolean run() {
    int wish = 60 + random.nextInt(240);
    if (chance(95)) tellFrame();
    while (calls < wish && !wrong) {
      int kind = random.nextInt(100);
      if (kind < 3) tellFrame();
      else if (kind < 7) tellRule();
      else if (kind < 8) tell(texts.rule());
      else if (kind < 10) burst();
      else if (kind < 45) act();
      else if (kind < 70) askPlan();
      else if (kind < 88) askOn();
      else askState();
    }
    if (!wrong) askAll();
    return !wrong;
  }

  public static void main(String[] args) {
    int runs = args.length > 0 ? Integer.parseInt(args[0]) : RUNS;
    long seed = args.length > 1 ? Long.parseLong(args[1]) : 1;
    int failed = 0;
    long calls = 0;
    for (int i = 0; i < runs && failed < 3; i++) {
      RunsTest t = new RunsTest(seed + i);
      if (!t.run()) {
        failed++;
        System.out.println("run of seed " + (seed + i) + ":");
        for (String s : t.told) System.out.println("  " + s);
      }
      calls += t.calls;
    }
    System.out.println("RunsTest: " + runs + " runs, " + calls + " calls, " + failed + " runs with a wrong answer");
    if (failed > 0) System.exit(1);
  }
}
