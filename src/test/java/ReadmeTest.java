import java.lang.reflect.Field;
import java.lang.reflect.Method;
import java.lang.reflect.Modifier;
import java.nio.file.Files;
import java.nio.file.Path;
import java.util.Arrays;
import java.util.List;
import java.util.Set;
import java.util.TreeSet;
import java.util.regex.Matcher;
import java.util.regex.Pattern;

/** README.md: the answers in its example are right, and it leaves out no call and no constant. */
public final class ReadmeTest {
  private static final Check CHECK = new Check();
  private static final Pattern CALL = Pattern.compile("hull\\.(\\w+)\\((.*)\\); +// ([\\w.-]+).*");
  private static final Pattern ROW = Pattern.compile("\\| `\\w+ (\\w+)\\((.*?)\\)` \\|.*");

  public static void main(String[] args) throws Exception {
    List<String> lines = Files.readAllLines(Path.of("README.md"));
    CHECK.sentence("README: the example");
    CHECK.due("it makes an object with room for 14 points",
        lines.stream().anyMatch(line -> line.startsWith("SolidHull hull = new SolidHull(14);")), true);
    CHECK.due("it has every call", example(lines).equals(calls()), true);
    CHECK.sentence("README: the table of calls");
    CHECK.due("it has every call", table(lines).equals(calls()), true);
    CHECK.sentence("README: the table of constants");
    constants(lines);
    CHECK.end();
  }

  private static Set<String> calls() {
    Set<String> calls = new TreeSet<>();
    for (Method method : SolidHull.class.getDeclaredMethods()) {
      if (Modifier.isPublic(method.getModifiers())) {
        calls.add(method.getName());
      }
    }
    return calls;
  }

  private static Set<String> example(List<String> lines) throws Exception {
    Set<String> calls = new TreeSet<>();
    CountedHull hull = new CountedHull(14);
    for (String line : lines) {
      Matcher call = CALL.matcher(line);
      if (call.matches()) {
        calls.add(call.group(1));
        CHECK.due(line, answer(hull, call.group(1), call.group(2)), due(call.group(3)));
      } else {
        CHECK.due(line + ": has a due answer", line.startsWith("hull."), false);
      }
    }
    return calls;
  }

  private static int answer(CountedHull hull, String name, String list) throws Exception {
    Object[] arguments = list.isEmpty() ? new Object[0] : Arrays.stream(list.split(", ")).map(Integer::valueOf).toArray();
    Class<?>[] types = new Class<?>[arguments.length];
    Arrays.fill(types, int.class);
    Object answer = CountedHull.class.getDeclaredMethod(name, types).invoke(hull, arguments);
    return answer instanceof Boolean yes ? (yes ? 1 : 0) : (Integer) answer;
  }

  private static int due(String words) throws Exception {
    if (words.startsWith("SolidHull.")) {
      return SolidHull.class.getField(words.substring("SolidHull.".length())).getInt(null);
    }
    return switch (words) {
      case "true" -> 1;
      case "false" -> 0;
      default -> Integer.parseInt(words);
    };
  }

  private static Set<String> table(List<String> lines) {
    Set<String> calls = new TreeSet<>();
    for (String line : lines) {
      Matcher row = ROW.matcher(line);
      if (row.matches()) {
        calls.add(row.group(1));
        int parameters = row.group(2).isEmpty() ? 0 : row.group(2).split(",").length;
        CHECK.due(line, has(row.group(1), parameters), true);
      }
    }
    return calls;
  }

  private static boolean has(String name, int parameters) {
    return Arrays.stream(SolidHull.class.getMethods())
        .anyMatch(method -> method.getName().equals(name) && method.getParameterCount() == parameters);
  }

  private static void constants(List<String> lines) throws Exception {
    for (Field field : SolidHull.class.getFields()) {
      String row = "| `" + field.getName() + "` | " + field.getInt(null) + " |";
      CHECK.due(row, lines.stream().anyMatch(line -> line.startsWith(row)), true);
    }
  }
}
