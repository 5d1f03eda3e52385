import java.io.IOException;
import java.lang.reflect.Method;
import java.lang.reflect.Modifier;
import java.nio.file.Files;
import java.nio.file.Path;
import java.util.ArrayList;
import java.util.List;
import java.util.Set;
import java.util.TreeSet;

/** README.md tells the truth: its example answers as its remarks say, its table has each call once. */
public final class ReadmeTest {
  private static final Checks checks = new Checks();
  private static List<String> lines;
  private static List<String> example;
  private static int reached = 0;

  public static void main(String[] args) throws IOException {
    lines = Files.readAllLines(Path.of("README.md"));
    example = exampleLines();
    theExample();
    theTable();
    theTests();
    checks.end();
  }

  private static List<String> exampleLines() {
    List<String> all = new ArrayList<>();
    boolean inside = false;
    for (String line : lines) {
      if (inside && line.equals("```")) break;
      if (inside) all.add(line);
      if (line.equals("```java")) inside = true;
    }
    return all;
  }

  /** The example's next line is this code, and its remark begins with what the class answered. */
  private static void line(String code, Object answer) {
    String line = reached < example.size() ? example.get(reached) : "";
    reached++;
    checks.due("code of line " + reached, line.split("//")[0].strip(), code);
    String remark = line.contains("// ") ? line.substring(line.indexOf("// ") + 3) : "";
    checks.due("remark on " + code, remark.split(":")[0], String.valueOf(answer));
  }

  private static void theExample() {
    checks.about("README.md, the example");
    checks.due("code of line 1", example.get(reached++), "DozingDevices x = new DozingDevices();");
    DozingDevices x = new DozingDevices();
    int bus = x.device(0, 2, 3, 0);
    line("int bus = x.device(0, 2, 3, 0);", bus);
    int disk = x.device(1 << bus, 1, 2, 5);
    line("int disk = x.device(1 << bus, 1, 2, 5);", disk);
    line("x.waker(bus, true);", x.waker(bus, true));
    line("x.tick(5);", x.tick(5));
    line("x.use(disk);", x.use(disk));
    line("x.sleep();", x.sleep());
    line("x.tick(3);", x.tick(3));
    line("x.phase();", x.phase());
    line("x.signal(bus);", x.signal(bus));
    line("x.tick(5);", x.tick(5));
    line("x.refuse(bus, 1);", x.refuse(bus, 1));
    line("x.sleep();", x.sleep());
    line("x.tick(3);", x.tick(3));
    line("x.phase();", x.phase());
    line("x.named();", x.named());
    line("x.watch(10);", x.watch(10));
    line("x.tick(11);", x.tick(11));
    line("x.figure(2);", x.figure(2));
    line("x.uses(disk);", x.uses(disk));
    line("x.use(7);", x.use(7));
    checks.due("lines", example.size(), reached);
  }

  private static void theTable() {
    checks.about("README.md, the table");
    Set<String> face = new TreeSet<>();
    for (Method m : DozingDevices.class.getDeclaredMethods()) {
      if (Modifier.isPublic(m.getModifiers())) face.add(m.getName() + "/" + m.getParameterCount());
    }
    Set<String> told = new TreeSet<>();
    for (String line : lines) {
      if (!line.startsWith("| `")) continue;
      String call = line.substring(3, line.indexOf('`', 3));
      String arguments = call.substring(call.indexOf('(') + 1, call.length() - 1);
      int count = arguments.isEmpty() ? 0 : arguments.split(",").length;
      String name = call.substring(0, call.indexOf('('));
      checks.due(name + " stands once", told.add(name + "/" + count), true);
    }
    checks.due("calls", told, face);
  }

  private static void theTests() throws IOException {
    checks.about("README.md, the tests");
    String whole = String.join("\n", lines);
    try (var files = Files.list(Path.of("src/test/java"))) {
      for (Path file : files.toList()) {
        if (!file.toString().endsWith("Test.java")) continue;
        checks.due(file + " is named", whole.contains("`" + file + "`"), true);
      }
    }
  }
}
