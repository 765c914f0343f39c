import java.io.IOException;
import java.lang.reflect.Constructor;
import java.lang.reflect.Field;
import java.lang.reflect.Method;
import java.lang.reflect.Modifier;
import java.nio.file.Files;
import java.nio.file.Path;
import java.util.Arrays;
import java.util.Set;
import java.util.TreeSet;

/** The face of the document, and those rules of LANGUAGE.md that can be seen from outside. */
public final class LanguageTest {
  private static final Check CHECK = new Check("LanguageTest");
  private static final String FACE = "feed 5,end 1,frame 0,rule 0,force 1,hole 2,entry 2,waits 1,turn 0,post 1,tie 1,"
      + "enter 3,strike 1,undo 0,where 2,may 1,read 2,codes 2,slips 1,worst 1,idle 0,least 0,one 1,change 1,ahead 3,"
      + "sorted 0,tied 1,enough 2,said 2,sent 1,pence 2,note 3,ruled 1,look 2,seed 1,posts 4,count 1,image 1,back 1";

  private static void no(String what, boolean seen) {
    CHECK.due(what, seen ? 1 : 0, 0);
  }

  private static void face() {
    CHECK.part("face");
    Set<String> due = new TreeSet<>(Arrays.asList(FACE.split(",")));
    Set<String> names = new TreeSet<>();
    for (String s : due) names.add(s.split(" ")[0]);
    no("a class that is not public and final", (PostFrame.class.getModifiers() & (Modifier.PUBLIC | Modifier.FINAL)) != (Modifier.PUBLIC | Modifier.FINAL));
    for (Method m : PostFrame.class.getDeclaredMethods()) {
      if (Modifier.isPrivate(m.getModifiers())) {
        no("private " + m.getName(), names.contains(m.getName()));
        continue;
      }
      String row = m.getName() + " " + m.getParameterCount();
      no("another method " + row, !due.remove(row));
      no(row + " that is not public", !Modifier.isPublic(m.getModifiers()) || Modifier.isStatic(m.getModifiers()));
      no(row + " of another type", m.getReturnType() != int.class);
      for (Class<?> p : m.getParameterTypes()) no(row + " of another type", p != int.class);
    }
    CHECK.due("methods that are missing: " + due, due.size(), 0);
    for (Field f : PostFrame.class.getDeclaredFields()) {
      no("field " + f.getName(), !Modifier.isPrivate(f.getModifiers()) && !f.getName().equals("NONE"));
      no("static field " + f.getName(), Modifier.isStatic(f.getModifiers()) && !Modifier.isFinal(f.getModifiers()));
    }
    Constructor<?>[] made = PostFrame.class.getDeclaredConstructors();
    no("constructors", made.length != 1 || made[0].getParameterCount() != 0 || !Modifier.isPublic(made[0].getModifiers()));
  }

  private static void inside() {
    CHECK.part("classes inside");
    Class<?>[] inside = PostFrame.class.getDeclaredClasses();
    no("more than twelve classes", inside.length + 1 > 12);
    for (Class<?> c : inside) {
      no(c + " that is not static", !Modifier.isStatic(c.getModifiers()));
      no(c + " that is public", Modifier.isPublic(c.getModifiers()) || Modifier.isProtected(c.getModifiers()));
      int fields = 0;
      for (Field f : c.getDeclaredFields()) {
        if (Modifier.isStatic(f.getModifiers())) no("static " + f.getName(), !Modifier.isFinal(f.getModifiers()));
        else fields++;
      }
      no(c + " with more than twenty fields", fields > 20);
      for (Method m : c.getDeclaredMethods()) no(m.getName() + " of eight", m.getParameterCount() > 7);
    }
  }

  private static void source() throws IOException {
    CHECK.part("source");
    for (String breach : Rules.brokenBy(Files.readString(Path.of("src/main/java/PostFrame.java")))) no(breach, true);
  }

  /** Rules tells what it should: a small class, once without and once with a line that breaks a rule. */
  private static void teeth() throws IOException {
    CHECK.part("Rules");
    CHECK.due("breaches of a good one: " + Rules.brokenBy(small("", "")), Rules.brokenBy(small("", "")).size(), 0);
    String[][] members = {
      {"1", "int open;"}, {"1", "static int open() { return 1; }"}, {"1", "public static class Open { }"},
      {"1", "private static final class Part { private int end(int n) { return n; } }"},
      {"2", "private final class Part { }"}, {"2", "private interface Part { }"}, {"2", "private static <T> T same(T t) { return t; }"},
      {"3", "private Object any;"}, {"3", "private int[][][] deep;"}, {"3", "private Integer many;"}, {"3", "private String[][] texts;"},
      {"4", "private String text = \"\\u00e9\";"}, {"4", "@Override public String toString() { return \"\"; }"},
      {"5", "private static int moving;"}, {"5", "private static final String TEXT = \"a\".trim();"}, {"5", "static { }"},
      {"6", "public int hashCode() { return 1; }"}, {"8", "private static int again(int n) { return n > 0 ? again(n - 1) : 0; }"},
      {"11", "private static int wide(int a, int b, int c, int d, int e, int f, int g, int h) { return a; }"},
      {"11", "private static int tall() {" + "\n".repeat(60) + "return 1; }"}, {"11", many("private int f", "=0;", 20)},
      {"11", many("private static final class C", "{ }", 12)},
      {"11", many("private static int d", "(int n) { return n; }", 1) + deep(8)}
    };
    for (String[] m : members) told(m[0], small(m[1], ""));
    String[][] lines = {
      {"2", "Runnable r = () -> { };"}, {"2", "class Local { }"}, {"2", "Runnable r = this::run;"},
      {"2", "Object o = new Object() { };"}, {"3", "Object o = null;"}, {"3", "double d = 1;"},
      {"4", "Math.addExact(n, n);"}, {"4", "System.out.println();"}, {"4", "n = Math.abs(n);"}, {"4", "\"a\".concat(\"b\");"},
      {"4", "System.nanoTime();"}, {"6", "throw new RuntimeException();"}, {"6", "try { n++; } finally { n--; }"},
      {"6", "synchronized (this) { n++; }"}, {"6", "assert n > 0;"}, {"6", "boolean b = \"a\" == \"b\";"}, {"6", "Object o = (Object) null;"},
      {"9", "while (n > 0) n--;"}, {"9", "do { n--; } while (n > 0);"}, {"9", "for (;;) n--;"}, {"9", "for (int i = 0; i < n;) n--;"},
      {"10", "String s = \"a\" + n;"}, {"10", "String s = \"a\"; s += \"b\";"}, {"12", "int[] row = new int[n];"}, {"12", "int[] row = {n};"}
    };
    for (String[] l : lines) told(l[0], small("", l[1]));
    told("4", "import java.util.List;" + small("", ""));
    told("1", "package p;" + small("", ""));
    told("1", small("", "").replace("final class PostFrame", "class PostFrame"));
    told("4", small("// " + (char) 233, ""));
  }

  /** What one object holds, counted with every field and element, is a small part of the room of a run. */
  private static void room() throws IllegalAccessException {
    CHECK.part("rule 12, what is kept");
    int[] fresh = held(new PostFrame());
    no(fresh[0] + " objects of a new one", fresh[0] > 500);
    no(fresh[1] + " fields and elements of a new one", fresh[1] > 8000);
    PostFrame x = Check.framed("frame 2 1 1;letter 1");
    x.turn();
    int[] before = held(x);
    for (int i = 0; i < 6; i++) Check.rule(x, "take 1" + "+1".repeat(56) + " if 1=1");
    for (int i = 0; i < 30; i++) Check.frame(x, "frame 4 4 6;plan 0 0 0;letter 1");
    for (int i = 0; i < 30; i++) x.turn();
    for (int i = 0; i < 4; i++) x.image(i);
    int[] behind = held(x);
    CHECK.due("objects more behind six RULES", behind[0] - before[0], 6 * 5);
    no(behind[1] + " fields and elements", behind[1] > before[1] + 6 * 200);
  }

  /** How many objects and arrays can be reached, and how many fields and elements these have. */
  private static int[] held(Object from) throws IllegalAccessException {
    Set<Object> seen = java.util.Collections.newSetFromMap(new java.util.IdentityHashMap<>());
    java.util.ArrayDeque<Object> next = new java.util.ArrayDeque<>(java.util.List.of(from));
    int[] sum = new int[2];
    while (!next.isEmpty()) {
      Object o = next.pop();
      if (!seen.add(o)) continue;
      sum[0]++;
      if (o.getClass().isArray()) {
        int length = java.lang.reflect.Array.getLength(o);
        sum[1] += length;
        for (int i = 0; i < length && o instanceof Object[] row; i++) {
          if (row[i] != null) next.push(row[i]);
        }
        continue;
      }
      for (Field f : o.getClass().getDeclaredFields()) {
        if (Modifier.isStatic(f.getModifiers())) continue;
        sum[1]++;
        f.setAccessible(true);
        if (!f.getType().isPrimitive() && f.get(o) != null) next.push(f.get(o));
      }
    }
    return sum;
  }

  private static String small(String member, String line) {
    return "public final class PostFrame {\n public PostFrame() { }\n public int end(int n) {" + line + "\n return n; }\n"
        + " private void run() { }\n" + member + "\n}";
  }

  private static String many(String ahead, String behind, int last) {
    StringBuilder b = new StringBuilder();
    for (int i = 0; i <= last; i++) b.append(ahead).append(i).append(behind);
    return b.toString();
  }

  /** Methods that call the one before, so that the last is so many deep and one more. */
  private static String deep(int last) {
    StringBuilder b = new StringBuilder("private static int e0() { return d0(1); }");
    for (int i = 1; i < last; i++) b.append("private static int e").append(i).append("() { return e").append(i - 1).append("(); }");
    return b.toString();
  }

  private static void told(String rule, String text) throws IOException {
    Set<String> breaches = Rules.brokenBy(text);
    boolean named = breaches.stream().anyMatch(b -> b.startsWith("rule " + rule + ":"));
    no("rule " + rule + " not told, but " + breaches + " of " + text, !named);
  }

  public static void main(String[] args) throws IOException, IllegalAccessException {
    face();
    inside();
    source();
    teeth();
    room();
    CHECK.end();
  }
}
