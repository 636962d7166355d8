import java.io.IOException;
import java.lang.reflect.Method;
import java.lang.reflect.Modifier;
import java.nio.file.Files;
import java.nio.file.Path;
import java.util.ArrayList;
import java.util.List;
import java.util.stream.Collectors;
import java.util.stream.Stream;

/** That what README.md says holds: its examples stand here, line by line, and are run. */
public final class ReadmeTest {
  private static final Path TESTS = Path.of("src/test/java");

  public static void main(String[] args) throws IOException {
    example();
    languageExamples();
    quotes();
    names();
    Check.end();
  }

  static void typeAll(TagFlow flow, String text) {
    for (int from = 0; from < text.length(); from += 8) {
      String part = text.substring(from, Math.min(text.length(), from + 8));
      long word = 0;
      for (char c : part.toCharArray()) {
        word = word << 8 | c;
      }
      flow.type(word, part.length());
    }
  }

  private static void example() {
    TagFlow flow = new TagFlow();
    typeAll(flow, "x(n)=tab z[i<n] of if i<2 then i else z[i-1]+z[i-2];");
    int functions = flow.compile(); // 1
    Check.due("functions", functions, 1);
    boolean begun = flow.start(0, 8, 0, 0, 0); // true: function 0 with n = 8
    Check.due("begun", begun, true);
    int some = flow.fire(10, 42); // 10, and state() is 1: under way
    Check.due("some", some, 10);
    Check.due("state under way", flow.state(), 1);
    int all = flow.fire(2000, -7); // 55, whatever the schedules
    Check.due("all", all, 55);
    int state = flow.state(); // 2: ended with a value
    Check.due("state", state, 2);
    int kind = flow.kind(); // 3: a table
    Check.due("kind", kind, 3);
    long cells = flow.value(); // 8
    Check.due("cells", cells, 8);
    long last = flow.cell(7, 1); // 13
    Check.due("last", last, 13);
    faultExample(flow);
    Check.due("the value stays", flow.value(), 8);
  }

  private static void faultExample(TagFlow flow) {
    int fault = 0;
    int place = 0;
    typeAll(flow, "f(n)=n+true;");
    try {
      flow.compile();
    } catch (IllegalArgumentException e) {
      fault = flow.fault(0); // 3: another type than is wanted
      place = flow.fault(1); // 7: the character where that begins, from 0 on
    }
    Check.due("fault", fault, 3);
    Check.due("place", place, 7);
  }

  /** The programs in the table of the language; a | is told there as \|. */
  private static void languageExamples() throws IOException {
    int found = 0;
    for (String line : Files.readAllLines(Path.of("README.md"))) {
      int from = line.indexOf("| `");
      int to = line.indexOf(";` |");
      if (line.startsWith("| ") && from > 0 && to > from) {
        Check.sound(line.substring(from + 3, to + 1).replace("\\|", "|"));
        found++;
      }
    }
    Check.due("programs in the table", found, 5);
  }

  private static void quotes() throws IOException {
    List<String> here = new ArrayList<>();
    for (String line : Files.readAllLines(TESTS.resolve("ReadmeTest.java"))) {
      here.add(line.trim());
    }
    boolean inside = false;
    int quoted = 0;
    for (String line : Files.readAllLines(Path.of("README.md"))) {
      if (line.startsWith("```")) {
        inside = line.equals("```java");
      } else if (inside && !line.isBlank()) {
        Check.due("stands in ReadmeTest: " + line, here.contains(line.trim()), true);
        quoted++;
      }
    }
    Check.due("lines of examples", quoted > 20, true);
  }

  private static void names() throws IOException {
    String text = Files.readString(Path.of("README.md"));
    for (Method m : TagFlow.class.getDeclaredMethods()) {
      if (Modifier.isPublic(m.getModifiers())) {
        Check.due("names " + m.getName(), text.contains("| `" + m.getName() + "("), true);
      }
    }
    List<String> tests;
    try (Stream<Path> files = Files.list(TESTS)) {
      tests = files.map(f -> f.getFileName().toString()).filter(f -> f.endsWith("Test.java"))
          .collect(Collectors.toList());
    }
    for (String test : tests) {
      String name = test.substring(0, test.length() - ".java".length());
      Check.due("names " + name, text.contains("| `" + name + "` |"), true);
    }
  }
}
