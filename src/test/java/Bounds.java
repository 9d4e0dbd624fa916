import java.io.IOException;
import java.lang.reflect.InvocationTargetException;
import java.lang.reflect.Method;
import java.nio.file.Files;
import java.nio.file.Path;
import java.util.Arrays;
import java.util.Comparator;
import java.util.HashSet;
import java.util.Set;

/** Runs each test of a class that bears a Says, on an object of its own. */
final class Bounds {
  private static final Path DOCUMENT = Path.of("../shared/DOC.md");

  private Bounds() { }

  /** The class is due to have a test for each promise from the first to the last. */
  static void run(Class<?> tests, int first, int last) throws IOException, IllegalAccessException {
    Check check = new Check();
    String document = plain(Files.readString(DOCUMENT));
    Set<Integer> promises = new HashSet<>();
    Method[] methods = tests.getDeclaredMethods();
    Arrays.sort(methods, Comparator.comparing(Method::getName));
    for (Method m : methods) {
      Says says = m.getAnnotation(Says.class);
      if (says == null) continue;
      promises.add(says.promise());
      check.holds("'" + says.value() + "' stands in the document", document.contains(plain(says.value())));
      test(m, new Case(check, says.promise() + " " + m.getName()));
    }
    for (int p = first; p <= last; p++) check.holds("promise " + p + " has a test", promises.contains(p));
    check.end();
  }

  private static void test(Method m, Case c) throws IllegalAccessException {
    try {
      m.setAccessible(true);
      m.invoke(null, c);
    } catch (InvocationTargetException e) {
      throw new IllegalStateException(m.getName() + " threw " + e.getCause(), e.getCause());
    }
  }

  private static String plain(String text) {
    return text.replaceAll("\\s+", " ");
  }
}
