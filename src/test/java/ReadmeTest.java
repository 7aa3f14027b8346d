import java.io.IOException;
import java.lang.reflect.Method;
import java.lang.reflect.Modifier;
import java.nio.file.Files;
import java.nio.file.Path;
import java.util.regex.Matcher;
import java.util.regex.Pattern;

/** What README.md says of the class holds: the answers of its example, and the calls that it names. */
public final class ReadmeTest {
  private static final Path FILE = Path.of("README.md");
  private static final Pattern EXAMPLE = Pattern.compile("(?s)```java\n(.*?)```");
  private static final Pattern CALL = Pattern.compile("x\\.(\\w+)\\((.*)\\); +// (-?\\d+)(:.*)?");
  private static final Pattern CONSTANT = Pattern.compile("-\\d: NameMaps\\.([A-Z_]+),");

  private static final Check check = new Check();

  public static void main(String[] args) throws IOException, ReflectiveOperationException {
    String readme = Files.readString(FILE);
    Matcher example = EXAMPLE.matcher(readme);
    check.dueTrue("there is an example", example.find());
    lookAtExample(example.group(1).split("\n"));
    check.dueTrue("there is one example alone", !example.find());
    lookAtCalls(readme);
    check.end();
  }

  private static void lookAtExample(String[] lines) throws ReflectiveOperationException {
    check.dueText("the first line", lines[0], "NameMaps x = new NameMaps();");
    Watched x = new Watched();
    for (int line = 1; line < lines.length; line++) {
      Matcher call = CALL.matcher(lines[line]);
      check.dueTrue("a call and its answer: " + lines[line], call.matches());
      int due = Integer.parseInt(call.group(3));
      check.due(lines[line], x.call(call.group(1), arguments(call.group(2))), due);
      Matcher constant = CONSTANT.matcher(lines[line]);
      if (constant.find()) {
        check.due(lines[line], NameMaps.class.getField(constant.group(1)).getInt(null), due);
      }
    }
  }

  private static int[] arguments(String list) {
    if (list.isEmpty()) {
      return new int[0];
    }
    String[] words = list.split(", ");
    int[] numbers = new int[words.length];
    for (int n = 0; n < words.length; n++) {
      boolean isSign = words[n].startsWith("'");
      numbers[n] = isSign ? words[n].charAt(1) : Integer.parseInt(words[n]);
    }
    return numbers;
  }

  private static void lookAtCalls(String readme) {
    for (Method method : NameMaps.class.getDeclaredMethods()) {
      if (Modifier.isPublic(method.getModifiers())) {
        String name = method.getName();
        check.dueTrue("it names " + name, readme.contains("`" + name + "`"));
      }
    }
  }
}
