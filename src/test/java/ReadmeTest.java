import java.io.IOException;
import java.lang.reflect.Method;
import java.lang.reflect.Modifier;
import java.nio.file.Files;
import java.nio.file.Path;
import java.util.HashSet;
import java.util.List;
import java.util.Set;
import java.util.regex.Matcher;
import java.util.regex.Pattern;

/** The examples of README.md, each block on an object of its own: what it answers is behind each call's //. */
final class ReadmeTest {
  private static final Path README = Path.of("README.md");
  private static final String MADE = "BlindSacks market = new BlindSacks();";
  private static final Pattern CALL = Pattern.compile("market\\.(\\w+)\\((.*)\\); +// (-?\\d+)(:.*)?");
  private static final Pattern BLOCK = Pattern.compile("(?s)```java\n(.*?)```");
  private static final Check check = new Check();
  private static final Set<String> shown = new HashSet<>();

  public static void main(String[] args) throws IOException, ReflectiveOperationException {
    Matcher blocks = BLOCK.matcher(Files.readString(README));
    while (blocks.find()) block(blocks.group(1).split("\n"));
    for (Method m : BlindSacks.class.getDeclaredMethods()) {
      if (Modifier.isPublic(m.getModifiers())) {
        check.holds("an example of " + m.getName(), shown.contains(m.getName()));
      }
    }
    check.end();
  }

  private static void block(String[] lines) throws ReflectiveOperationException {
    check.holds("a block begins with a new object: " + lines[0], lines[0].equals(MADE));
    BlindSacks market = new BlindSacks();
    for (String line : List.of(lines).subList(1, lines.length)) {
      Matcher call = CALL.matcher(line);
      check.holds("one call and its answer: " + line, call.matches());
      if (call.matches()) {
        shown.add(call.group(1));
        check.due("README's " + line, answer(market, call.group(1), call.group(2)), Long.parseLong(call.group(3)));
      }
    }
  }

  private static long answer(BlindSacks market, String name, String told) throws ReflectiveOperationException {
    String[] words = told.isEmpty() ? new String[0] : told.split(", ");
    for (Method m : BlindSacks.class.getDeclaredMethods()) {
      if (m.getName().equals(name) && m.getParameterCount() == words.length) {
        Object[] arguments = new Object[words.length];
        for (int k = 0; k < words.length; k++) arguments[k] = argument(words[k], m.getParameterTypes()[k]);
        return ((Number) m.invoke(market, arguments)).longValue();
      }
    }
    throw new NoSuchMethodException(name + "(" + told + ")");
  }

  private static Object argument(String word, Class<?> type) {
    if (word.startsWith("'")) return (int) word.charAt(1);
    return type == long.class ? (Object) Long.parseLong(word) : (Object) Integer.parseInt(word);
  }
}
