import java.lang.reflect.Constructor;
import java.lang.reflect.Field;
import java.lang.reflect.Method;
import java.lang.reflect.Modifier;
import java.nio.file.Files;
import java.nio.file.Path;
import java.util.Set;
import java.util.TreeSet;
import java.util.regex.Matcher;
import java.util.regex.Pattern;

/** What can be seen from outside of the rules of LANGUAGE.md: the face, and words that the source may not have. */
final class LanguageTest {
  private static final String FACE = "about(int) back(int) believed(int) book() chosen(int) dot(int,int,int,int) dots(int,int,int) doubles() end(int) "
      + "fault(int) feed(int,int,int,int,int) follow(int,int,int,int,int,int) followed(int,int,int,int,int,int) held(int) image(int) later(int) "
      + "length(int,int) liar(int,int,int) look(int,int,int,int,int) looks(int) named(int,int,int,int) namings(int,int,int) odds(int,int,int,int) "
      + "picture() point(int,int,int) rules() shift(int,int,int,int,int) speckless(int,int,boolean) stretch(int,int,int) told(int,int) trust(int,int) "
      + "turn(int,int,int,int) untell(int) wanderers(int,int)";
  private static final Set<String> LONGS = Set.of("odds", "turn", "look", "stretch", "shift");
  private static final Set<String> BOOLEANS = Set.of("untell", "speckless");

  public static void main(String[] args) throws Exception {
    face();
    members();
    source();
    Check.finish("LanguageTest");
  }

  private static void face() {
    Set<String> has = new TreeSet<>();
    for (Method m : StarEye.class.getDeclaredMethods()) {
      if (Modifier.isPrivate(m.getModifiers())) continue;
      Check.due(m + " is public", Modifier.isPublic(m.getModifiers()) && !Modifier.isStatic(m.getModifiers()), true);
      StringBuilder text = new StringBuilder(m.getName()).append('(');
      for (Class<?> type : m.getParameterTypes()) text.append(text.charAt(text.length() - 1) == '(' ? "" : ",").append(type.getName());
      has.add(text.append(')').toString());
      String answer = LONGS.contains(m.getName()) ? "long" : BOOLEANS.contains(m.getName()) ? "boolean" : "int";
      Check.due(m.getName() + " answers " + answer, m.getReturnType().getName().equals(answer), true);
    }
    Set<String> due = new TreeSet<>(Set.of(FACE.split(" ")));
    Check.due("the face has " + has, has.equals(due), true);
    Check.due("final", Modifier.isFinal(StarEye.class.getModifiers()), true);
    Constructor<?>[] made = StarEye.class.getDeclaredConstructors();
    Check.due("one constructor", made.length == 1 && made[0].getParameterCount() == 0 && Modifier.isPublic(made[0].getModifiers()), true);
  }

  private static void members() {
    Set<String> faced = new TreeSet<>();
    for (String one : FACE.split(" ")) faced.add(one.substring(0, one.indexOf('(')));
    for (Field f : StarEye.class.getDeclaredFields()) {
      boolean constant = f.getName().equals("NONE") || f.getName().equals("GAP");
      Check.due(f + " is private", Modifier.isPrivate(f.getModifiers()) != constant, true);
      if (Modifier.isStatic(f.getModifiers())) Check.due(f + " is final", Modifier.isFinal(f.getModifiers()), true);
    }
    Check.due("classes", StarEye.class.getDeclaredClasses().length <= 12, true);
    for (Method m : StarEye.class.getDeclaredMethods()) {
      if (Modifier.isPrivate(m.getModifiers())) Check.due(m + " bears a name of the face", faced.contains(m.getName()), false);
    }
    for (Class<?> c : StarEye.class.getDeclaredClasses()) {
      Check.due(c + " is static", Modifier.isStatic(c.getModifiers()), true);
      int fields = 0;
      for (Field f : c.getDeclaredFields()) if (!Modifier.isStatic(f.getModifiers())) fields++;
      Check.due(c + " has some twenty fields", fields <= 20, true);
      for (Method m : c.getDeclaredMethods()) {
        Check.due(m + " bears a name of the face", faced.contains(m.getName()), false);
        Check.due(m + " takes seven at most", m.getParameterCount() <= 7, true);
      }
    }
  }

  private static void source() throws Exception {
    String text = Files.readString(Path.of("src/main/java/StarEye.java"));
    for (int i = 0; i < text.length(); i++) {
      if (text.charAt(i) > 126) Check.due("a sign above 126 at " + i, 1, 0);
    }
    String code = text.replaceAll("(?s)/\\*.*?\\*/", " ").replaceAll("//[^\\n]*", " ").replaceAll("\"[^\"\\n]*\"", "\"\"");
    for (String word : "throw throws try catch finally synchronized assert instanceof double float var record System.out Exact hashCode toString"
        .split(" ")) {
      Matcher m = Pattern.compile("\\b" + Pattern.quote(word) + "\\b").matcher(code);
      Check.due("the word " + word, m.find(), false);
    }
    Check.due("lambdas", code.contains("->"), false);
    Check.due("method references", code.contains("::"), false);
    Check.due("a package", code.contains("package "), false);
    Check.due("while (true)", Pattern.compile("while\\s*\\(\\s*true|for\\s*\\(\\s*;\\s*;").matcher(code).find(), false);
    Matcher imports = Pattern.compile("import ([^;]*);").matcher(code);
    while (imports.find()) Check.due("import " + imports.group(1), imports.group(1).equals("java.util.Arrays"), true);
    Matcher library = Pattern.compile("\\b(Integer|Long|Math|Arrays|System)\\.(\\w+)").matcher(code);
    Set<String> fine = Set.of("bitCount", "numberOfTrailingZeros", "signum", "abs", "min", "max", "fill", "arraycopy");
    while (library.find()) Check.due("the library's " + library.group(), fine.contains(library.group(2)), true);
    methodLengths(text);
  }

  private static void methodLengths(String text) {
    String[] lines = text.split("\n");
    int from = 0;
    for (int i = 0; i < lines.length; i++) {
      if (lines[i].matches(" {4,8}[A-Za-z][^=;]*\\) \\{")) from = i;
      if (lines[i].matches(" {4,8}\\}") && i - from > 60) Check.due("a method of " + (i - from) + " lines at line " + from, 1, 0);
      if (lines[i].matches(" {4,8}\\}")) from = i;
    }
  }
}
