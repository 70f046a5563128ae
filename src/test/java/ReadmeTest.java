import java.lang.reflect.Method;
import java.lang.reflect.Modifier;
import java.nio.file.Files;
import java.nio.file.Path;
import java.util.ArrayList;
import java.util.List;
import java.util.Set;
import java.util.TreeSet;
import java.util.regex.Matcher;
import java.util.regex.Pattern;
import java.util.stream.Stream;

/** README.md tells the truth: its calls are made and their answers compared, its helper and its files are there. */
final class ReadmeTest {
  private static final String MAKES = "StarEye eye = new StarEye();";
  private static final Pattern PUT = Pattern.compile("put\\(eye, \"([^\"]*)\"\\);");
  private static final Pattern CALL = Pattern.compile("eye\\.(\\w+)\\(([^)]*)\\); +// (-?\\d+|true|false|NONE|GAP): .*");
  private static final Set<String> called = new TreeSet<>();
  private static StarEye eye = null;

  public static void main(String[] args) throws Exception {
    String readme = Files.readString(Path.of("README.md"));
    for (String block : blocks(readme)) {
      if (block.contains("static boolean put(")) {
        Check.due("README's helper stands in Check", Files.readString(Path.of("src/test/java/Check.java")).contains(block), true);
      } else {
        for (String line : block.split("\n")) follow(line);
      }
    }
    for (Method m : StarEye.class.getDeclaredMethods()) {
      if (Modifier.isPublic(m.getModifiers())) Check.due("README calls " + m.getName(), called.contains(m.getName()), true);
    }
    namesTests(readme);
    Check.finish("ReadmeTest");
  }

  private static List<String> blocks(String readme) {
    List<String> all = new ArrayList<>();
    Matcher m = Pattern.compile("(?s)```java\n(.*?)```").matcher(readme);
    while (m.find()) all.add(m.group(1));
    Check.due("README has blocks of calls", all.size() > 3, true);
    return all;
  }

  private static void follow(String line) throws Exception {
    Matcher put = PUT.matcher(line);
    Matcher call = CALL.matcher(line);
    if (line.equals(MAKES)) {
      eye = new StarEye();
    } else if (put.matches()) {
      Check.due(line, Check.put(eye, put.group(1)), true);
    } else if (call.matches()) {
      called.add(call.group(1));
      Check.due("README: " + line, ask(call.group(1), call.group(2)), numberOf(call.group(3)));
    } else {
      Check.due("README's line can be followed: " + line, false, true);
    }
  }

  private static long ask(String name, String told) throws Exception {
    String[] words = told.isEmpty() ? new String[0] : told.split(", ");
    for (Method m : StarEye.class.getDeclaredMethods()) {
      if (!m.getName().equals(name) || !Modifier.isPublic(m.getModifiers()) || m.getParameterCount() != words.length) continue;
      Object[] given = new Object[words.length];
      for (int i = 0; i < words.length; i++) {
        boolean truth = m.getParameterTypes()[i] == boolean.class;
        given[i] = truth ? (Object) words[i].equals("true") : (Object) Integer.decode(words[i]);
      }
      Object answer = m.invoke(eye, given);
      return answer instanceof Boolean is ? is ? 1 : 0 : ((Number) answer).longValue();
    }
    Check.due("there is a call " + name + " with " + words.length + " arguments", false, true);
    return 0;
  }

  private static long numberOf(String answer) {
    return switch (answer) {
      case "true" -> 1;
      case "false" -> 0;
      case "NONE" -> StarEye.NONE;
      case "GAP" -> StarEye.GAP;
      default -> Long.parseLong(answer);
    };
  }

  /** Each test is named in README.md, and each test that it names is there. */
  private static void namesTests(String readme) throws Exception {
    try (Stream<Path> files = Files.list(Path.of("src/test/java"))) {
      for (Path file : (Iterable<Path>) files::iterator) {
        String name = file.getFileName().toString().replace(".java", "");
        if (name.endsWith("Test")) Check.due("README names " + name, readme.contains("`" + name + "`"), true);
      }
    }
    Matcher m = Pattern.compile("`(\\w+Test)`").matcher(readme);
    while (m.find()) Check.due("there is a " + m.group(1), Files.exists(Path.of("src/test/java/" + m.group(1) + ".java")), true);
  }
}
