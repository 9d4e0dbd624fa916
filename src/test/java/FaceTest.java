import java.io.IOException;
import java.lang.reflect.Constructor;
import java.lang.reflect.Field;
import java.lang.reflect.Method;
import java.lang.reflect.Modifier;
import java.nio.file.Files;
import java.nio.file.Path;
import java.util.Arrays;
import java.util.HashSet;
import java.util.List;
import java.util.Set;
import java.util.TreeSet;
import java.util.regex.Matcher;
import java.util.regex.Pattern;
import java.util.stream.Collectors;

/** The public face, and those rules of LANGUAGE.md that can be read off the class or its source. */
final class FaceTest {
  private static final Check check = new Check();
  private static final Path SOURCE = Path.of("src/main/java/BlindSacks.java");
  private static final String[] FACE = {
    "int sack(int)", "int sacks(int,int,int)", "int buyer(int,int)", "int mend(int,int,int)", "int of(int,int)",
    "int feed(int)", "int law()", "int worthOf(int,int)", "long belief(int,int,int,int)", "int likeliest(int,int,int)",
    "long worth(int,int,int)", "int next(int,int)", "long right(int,int,int)", "int buys(int,int,int)", "int dealt(int)",
    "int groan(int,int)", "long stock(int,int)", "int tells(int)", "int byTurns(int,int,int)", "int drawn(int,int,int,int)",
    "int sell(int,int)", "int open(int)", "int dusk()", "int led(int)", "int image()", "int back()", "int undo()", "int redo()",
    "int body(int)", "int act(int,int,int)", "int trace(int)", "int keep(int,int)", "int row(int,int,int)",
    "int put(int,int,long)", "long element(int,int)", "int shift(int,int,int,int,int)", "int taken(int,int)", "int count(int)",
  };
  private static final String[] FORBIDDEN = {
    "throw", "throws", "try", "catch", "finally", "synchronized", "assert", "volatile", "native", "strictfp", "hashCode", "toString",
    "Exact", "Thread", "System.out", "System.nano", "System.current", "Random", "Math.random", "Object", "Override", "package", "->", "::",
  };

  public static void main(String[] args) throws Exception {
    constants();
    methods();
    hidden();
    noNameTwice();
    classes();
    source();
    check.end();
  }

  private static void constants() {
    check.due("BAD", BlindSacks.BAD, -1);
    check.due("NOT", BlindSacks.NOT, -2);
    check.due("FULL", BlindSacks.FULL, -3);
    check.due("STATE", BlindSacks.STATE, -5);
    check.due("VOID", BlindSacks.VOID, -2000000000);
    Set<String> names = Arrays.stream(BlindSacks.class.getFields()).map(Field::getName).collect(Collectors.toSet());
    check.holds("the public constants " + names, names.equals(Set.of("BAD", "NOT", "FULL", "STATE", "VOID")));
  }

  private static String signature(Method m) {
    String parameters = Arrays.stream(m.getParameterTypes()).map(Class::getName).collect(Collectors.joining(","));
    return m.getReturnType().getName() + " " + m.getName() + "(" + parameters + ")";
  }

  private static void methods() {
    Set<String> face = new TreeSet<>();
    for (Method m : BlindSacks.class.getDeclaredMethods()) {
      if (Modifier.isPublic(m.getModifiers())) {
        face.add(signature(m));
        check.holds(m + " is not static", !Modifier.isStatic(m.getModifiers()));
      }
    }
    check.holds("the public methods " + face, face.equals(new TreeSet<>(List.of(FACE))));
    check.due("one constructor", BlindSacks.class.getDeclaredConstructors().length, 1);
    Constructor<?> made = BlindSacks.class.getDeclaredConstructors()[0];
    check.holds("it is public, without parameters", Modifier.isPublic(made.getModifiers()) && made.getParameterCount() == 0);
    int modifiers = BlindSacks.class.getModifiers();
    check.holds("public and final", Modifier.isPublic(modifiers) && Modifier.isFinal(modifiers));
  }

  private static void hidden() {
    for (Method m : BlindSacks.class.getDeclaredMethods()) {
      check.holds(m + " is public or private", Modifier.isPublic(m.getModifiers()) || Modifier.isPrivate(m.getModifiers()));
    }
    for (Field f : BlindSacks.class.getDeclaredFields()) {
      check.holds(f + " is public or private", Modifier.isPublic(f.getModifiers()) || Modifier.isPrivate(f.getModifiers()));
    }
  }

  private static void noNameTwice() {
    Set<String> names = new HashSet<>();
    for (String s : FACE) names.add(s.substring(s.indexOf(' ') + 1, s.indexOf('(')));
    for (Class<?> c : BlindSacks.class.getDeclaredClasses()) {
      for (Method m : c.getDeclaredMethods()) check.holds(m + " bears a public name", !names.contains(m.getName()));
    }
    for (Method m : BlindSacks.class.getDeclaredMethods()) {
      check.holds(m + " bears a public name", Modifier.isPublic(m.getModifiers()) || !names.contains(m.getName()));
    }
  }

  private static void classes() {
    Class<?>[] inside = BlindSacks.class.getDeclaredClasses();
    check.holds("some twelve classes", inside.length + 1 <= 12);
    for (Class<?> c : inside) {
      check.holds(c + " is static", Modifier.isStatic(c.getModifiers()) && !Modifier.isPublic(c.getModifiers()));
    }
    for (Class<?> c : withInside(inside)) {
      long fields = Arrays.stream(c.getDeclaredFields()).filter(f -> !Modifier.isStatic(f.getModifiers())).count();
      check.holds(c + " has some twenty fields", fields <= 20);
      for (Field f : c.getDeclaredFields()) {
        check.holds(f + " is final", !Modifier.isStatic(f.getModifiers()) || Modifier.isFinal(f.getModifiers()));
      }
      for (Method m : c.getDeclaredMethods()) check.holds(m + " takes at most seven", m.getParameterCount() <= 7);
    }
  }

  private static List<Class<?>> withInside(Class<?>[] inside) {
    List<Class<?>> all = new java.util.ArrayList<>(List.of(inside));
    all.add(BlindSacks.class);
    return all;
  }

  private static void source() throws IOException {
    String text = Files.readString(SOURCE);
    String code = text.replaceAll("(?s)/\\*.*?\\*/", "").replaceAll("//[^\n]*", "");
    for (String word : FORBIDDEN) {
      Pattern p = Pattern.compile(Character.isLetter(word.charAt(0)) ? "\\b" + Pattern.quote(word) + "\\b" : Pattern.quote(word));
      check.holds("the source has '" + word + "'", !p.matcher(code).find());
    }
    check.holds("texts are joined by +", !Pattern.compile("\"\\s*\\+|\\+\\s*\"").matcher(code).find());
    Matcher imports = Pattern.compile("import ([^;]*);").matcher(code);
    while (imports.find()) check.holds("import of " + imports.group(1), imports.group(1).equals("java.util.Arrays"));
    check.holds("a static block", !Pattern.compile("static\\s*\\{").matcher(code).find());
    for (char c : text.toCharArray()) check.holds("a sign beyond 127", c < 128);
    methodsAreShort(text);
  }

  private static void methodsAreShort(String text) {
    int began = -1;
    String[] lines = text.split("\n");
    String indent = "";
    for (int i = 0; i < lines.length; i++) {
      if (began < 0 && lines[i].matches(" +[a-z].*\\) \\{") && !lines[i].trim().matches("(if|for|while|switch|else).*")) {
        began = i;
        indent = lines[i].substring(0, lines[i].indexOf(lines[i].trim()));
      } else if (began >= 0 && lines[i].equals(indent + "}")) {
        check.holds("a method of some sixty lines at line " + (began + 1), i - began + 1 <= 60);
        began = -1;
      }
    }
  }
}
