import java.io.IOException;
import java.lang.reflect.Constructor;
import java.lang.reflect.Field;
import java.lang.reflect.Method;
import java.lang.reflect.Modifier;
import java.nio.file.Files;
import java.nio.file.Path;
import java.util.Arrays;
import java.util.Set;
import java.util.TreeSet;
import java.util.regex.Matcher;
import java.util.regex.Pattern;

/** The face of the document, and those rules of LANGUAGE.md that can be seen from outside. */
public final class LanguageTest {
  private static final Check CHECK = new Check("LanguageTest");
  private static final String FACE = "feed 5,end 1,frame 0,rule 0,force 1,hole 2,entry 2,waits 1,turn 0,post 1,tie 1,"
      + "enter 3,strike 1,undo 0,where 2,may 1,read 2,codes 2,slips 1,worst 1,idle 0,least 0,one 1,change 1,ahead 3,"
      + "sorted 0,tied 1,enough 2,said 2,sent 1,pence 2,note 3,ruled 1,look 2,seed 1,posts 4,count 1,image 1,back 1";

  private static void no(String what, boolean seen) {
    CHECK.due(what, seen ? 1 : 0, 0);
  }

  private static void face() {
    CHECK.part("face");
    Set<String> due = new TreeSet<>(Arrays.asList(FACE.split(",")));
    Set<String> names = new TreeSet<>();
    for (String s : due) names.add(s.split(" ")[0]);
    no("a class that is not public and final", (PostFrame.class.getModifiers() & (Modifier.PUBLIC | Modifier.FINAL)) != (Modifier.PUBLIC | Modifier.FINAL));
    for (Method m : PostFrame.class.getDeclaredMethods()) {
      if (Modifier.isPrivate(m.getModifiers())) {
        no("private " + m.getName(), names.contains(m.getName()));
        continue;
      }
      String row = m.getName() + " " + m.getParameterCount();
      no("another method " + row, !due.remove(row));
      no(row + " that is not public", !Modifier.isPublic(m.getModifiers()) || Modifier.isStatic(m.getModifiers()));
      no(row + " of another type", m.getReturnType() != int.class);
      for (Class<?> p : m.getParameterTypes()) no(row + " of another type", p != int.class);
    }
    CHECK.due("methods that are missing: " + due, due.size(), 0);
    for (Field f : PostFrame.class.getDeclaredFields()) {
      no("field " + f.getName(), !Modifier.isPrivate(f.getModifiers()) && !f.getName().equals("NONE"));
      no("static field " + f.getName(), Modifier.isStatic(f.getModifiers()) && !Modifier.isFinal(f.getModifiers()));
    }
    Constructor<?>[] made = PostFrame.class.getDeclaredConstructors();
    no("constructors", made.length != 1 || made[0].getParameterCount() != 0 || !Modifier.isPublic(made[0].getModifiers()));
  }

  private static void inside() {
    CHECK.part("classes inside");
    Class<?>[] inside = PostFrame.class.getDeclaredClasses();
    no("more than twelve classes", inside.length + 1 > 12);
    for (Class<?> c : inside) {
      no(c + " that is not static", !Modifier.isStatic(c.getModifiers()));
      no(c + " that is public", Modifier.isPublic(c.getModifiers()) || Modifier.isProtected(c.getModifiers()));
      int fields = 0;
      for (Field f : c.getDeclaredFields()) {
        if (Modifier.isStatic(f.getModifiers())) no("static " + f.getName(), !Modifier.isFinal(f.getModifiers()));
        else fields++;
      }
      no(c + " with more than twenty fields", fields > 20);
      for (Method m : c.getDeclaredMethods()) no(m.getName() + " of eight", m.getParameterCount() > 7);
    }
  }

  private static void source() throws IOException {
    CHECK.part("source");
    String text = Files.readString(Path.of("src/main/java/PostFrame.java"));
    for (char c : text.toCharArray()) {
      if (c > 126) no("a sign beyond 126", true);
    }
    String code = text.replaceAll("(?s)/\\*.*?\\*/", "").replaceAll("//[^\n]*", "").replaceAll("\"[^\"\n]*\"", "\"\"")
        .replaceAll("'[^'\n]'", "' '");
    String[] words = {
      "throw", "throws", "try", "catch", "finally", "synchronized", "assert", "import", "package", "native", "volatile",
      "transient", "protected", "Object", "Math\\s*\\.\\s*\\w+Exact", "equals", "hashCode", "random", "Thread", "record", "sealed"
    };
    for (String w : words) no(w, Pattern.compile("\\b" + w + "\\b").matcher(code).find());
    no("lambda", code.contains("->"));
    no("method reference", code.contains("::"));
    no("static block", Pattern.compile("static\\s*\\{").matcher(code).find());
    Matcher libs = Pattern.compile("\\b(System|Math|Integer|Long|Arrays|String|StringBuilder)\\s*\\.\\s*(\\w+)").matcher(code);
    Set<String> known = Set.of("System.arraycopy", "Math.min", "Math.max", "Integer.bitCount");
    while (libs.find()) no(libs.group(), !known.contains(libs.group(1) + "." + libs.group(2)));
    methodLengths(code);
  }

  private static void methodLengths(String code) {
    String[] lines = code.split("\n");
    int from = -1;
    String indent = "";
    for (int i = 0; i < lines.length; i++) {
      Matcher m = Pattern.compile("^( {4}| {8})(?! )[^=;]*\\) \\{$").matcher(lines[i]);
      if (from < 0 && m.find()) {
        from = i;
        indent = m.group(1);
      } else if (from >= 0 && lines[i].equals(indent + "}")) {
        no("a method of " + (i - from) + " lines: " + lines[from].trim(), i - from > 60);
        from = -1;
      }
    }
  }

  public static void main(String[] args) throws IOException {
    face();
    inside();
    source();
    CHECK.end();
  }
}
