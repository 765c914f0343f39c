import java.io.IOException;
import java.lang.reflect.Method;
import java.lang.reflect.Modifier;
import java.nio.file.Files;
import java.nio.file.Path;
import java.util.HashMap;
import java.util.Map;
import java.util.regex.Matcher;
import java.util.regex.Pattern;

/** The calls that README.md shows answer as it says, and it names every method of the face. */
public final class ReadmeTest {
  private static final Check CHECK = new Check("ReadmeTest");
  private static final Pattern CALL = Pattern.compile("x\\.(\\w+)\\(([^()]*)\\);\\s*// (-?\\d+).*");
  private static final Map<String, Method> FACE = new HashMap<>();

  private ReadmeTest() { }

  private static int run(PostFrame x, String name, String arguments) throws ReflectiveOperationException {
    String[] texts = arguments.isBlank() ? new String[0] : arguments.split(",");
    Object[] numbers = new Object[texts.length];
    for (int i = 0; i < texts.length; i++) numbers[i] = Integer.decode(texts[i].trim());
    return (Integer) FACE.get(name).invoke(x, numbers);
  }

  public static void main(String[] args) throws IOException, ReflectiveOperationException {
    for (Method m : PostFrame.class.getDeclaredMethods()) {
      if (Modifier.isPublic(m.getModifiers())) FACE.put(m.getName(), m);
    }
    String text = Files.readString(Path.of("README.md"));
    CHECK.part("methods");
    for (String name : FACE.keySet()) CHECK.due("`" + name + "` named", text.contains("`" + name + "`") ? 1 : 0, 1);
    CHECK.part("examples");
    PostFrame x = new PostFrame();
    int calls = 0;
    for (String line : text.split("\n")) {
      if (line.startsWith("PostFrame x = new PostFrame();")) x = new PostFrame();
      Matcher call = CALL.matcher(line);
      if (!call.matches()) continue;
      calls++;
      CHECK.due(call.group(1) + "(" + call.group(2) + ")", run(x, call.group(1), call.group(2)), Integer.parseInt(call.group(3)));
    }
    CHECK.due("calls that are shown", Math.min(calls, 20), 20);
    CHECK.end();
  }
}
