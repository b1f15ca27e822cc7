import java.io.ByteArrayOutputStream;
import java.io.IOException;
import java.io.PrintStream;
import java.lang.reflect.Method;
import java.lang.reflect.Modifier;
import java.net.URL;
import java.net.URLClassLoader;
import java.nio.charset.StandardCharsets;
import java.nio.file.Files;
import java.nio.file.Path;
import java.util.ArrayList;
import java.util.Comparator;
import java.util.List;
import java.util.regex.Matcher;
import java.util.regex.Pattern;
import java.util.stream.Stream;
import javax.tools.ToolProvider;

/** README.md: its example compiles and prints what its comments say, and it names every call and every test. */
public final class ReadmeTest {
  private static final Pattern EXAMPLE = Pattern.compile("```java\n(.*?)```", Pattern.DOTALL);
  private static final Pattern PRINTED = Pattern.compile("System\\.out\\.println.*// prints (.*)");

  public static void main(String[] args) throws Exception {
    String readme = Files.readString(Path.of("README.md"));
    namesEveryCall(readme);
    namesEveryTest(readme);
    Matcher example = EXAMPLE.matcher(readme);
    Checks.due("an example in README.md", example.find(), true);
    printsWhatItSays(example.group(1));
    Checks.end();
  }

  private static void namesEveryCall(String readme) {
    for (Method method : CronEngine.class.getDeclaredMethods()) {
      if (Modifier.isPublic(method.getModifiers())) {
        Checks.due("README.md names " + method.getName(), readme.contains("| `" + method.getName() + "("), true);
      }
    }
  }

  private static void namesEveryTest(String readme) throws IOException {
    try (Stream<Path> files = Files.list(Path.of("src/test/java"))) {
      for (Path file : files.toList()) {
        String name = file.getFileName().toString().replace(".java", "");
        Checks.due("README.md names " + name, readme.contains("`" + name + "`"), true);
      }
    }
  }

  private static void printsWhatItSays(String example) throws Exception {
    Path place = Files.createTempDirectory("readme");
    Path source = Files.writeString(place.resolve("Example.java"), example);
    int failed = ToolProvider.getSystemJavaCompiler().run(null, null, null,
        "-classpath", System.getProperty("java.class.path"), "-d", place.toString(), source.toString());
    Checks.due("javac of the example", failed, 0);
    if (failed == 0) {
      Checks.due("what the example prints", linesOf(place), promisedBy(example));
    }
    remove(place);
  }

  private static List<String> promisedBy(String example) {
    List<String> lines = new ArrayList<>();
    Matcher printed = PRINTED.matcher(example);
    while (printed.find()) {
      lines.add(printed.group(1));
    }
    return lines;
  }

  private static List<String> linesOf(Path place) throws Exception {
    PrintStream before = System.out;
    ByteArrayOutputStream caught = new ByteArrayOutputStream();
    try (URLClassLoader loader = new URLClassLoader(new URL[] {place.toUri().toURL()})) {
      System.setOut(new PrintStream(caught, true, StandardCharsets.UTF_8));
      loader.loadClass("Example").getMethod("main", String[].class).invoke(null, (Object) new String[0]);
    } finally {
      System.setOut(before);
    }
    return caught.toString(StandardCharsets.UTF_8).lines().toList();
  }

  private static void remove(Path place) throws IOException {
    try (Stream<Path> files = Files.walk(place)) {
      for (Path file : files.sorted(Comparator.reverseOrder()).toList()) {
        Files.delete(file);
      }
    }
  }
}
