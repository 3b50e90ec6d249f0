import java.io.IOException;
import java.io.UncheckedIOException;
import java.lang.reflect.Method;
import java.lang.reflect.Modifier;
import java.nio.charset.StandardCharsets;
import java.nio.file.Files;
import java.nio.file.Path;
import java.util.ArrayList;
import java.util.Comparator;
import java.util.List;
import java.util.Set;
import java.util.TreeSet;
import java.util.regex.Matcher;
import java.util.regex.Pattern;
import java.util.stream.Stream;

/** What README.md says is so when one does just what it says, in a folder like this one. */
public final class ReadmeTest {
  private static final Path PROGRAM = Path.of("src", "main", "java");
  private static final Path TESTS = Path.of("src", "test", "java");

  /** In the order of the README; the last one is asked for fewer runs here. */
  private static final String[] COMMANDS = {
    "javac -d out src/main/java/SkippingKeys.java out/Use.java", "java -cp out Use", ".ci/run",
    "mkdir -p out && javac -d out src/main/java/*.java src/test/java/*.java",
    "java -cp out PromiseTest", "java -cp out RandomRunsTest 1000 5000"
  };
  private static final int LAST_PROMISE = 55;

  private final Checks checks = new Checks("ReadmeTest");
  private final List<String> lines;

  private ReadmeTest(List<String> lines) {
    this.lines = lines;
  }

  public static void main(String[] args) throws IOException, InterruptedException {
    ReadmeTest test = new ReadmeTest(Files.readAllLines(Path.of("README.md")));
    Path folder = Files.createTempDirectory("readme");
    try {
      test.doAsItSays(folder);
    } finally {
      removeAll(folder);
    }
    test.namesAllCalls();
    test.tellsRefusals();
    test.namesAllTests();
    test.checks.end();
  }

  private void doAsItSays(Path folder) throws IOException, InterruptedException {
    for (Path part : new Path[] {PROGRAM, TESTS}) {
      Files.createDirectories(folder.resolve(part));
      for (Path file : javaFiles(part)) {
        Files.copy(file, folder.resolve(file));
      }
    }
    Files.createDirectories(folder.resolve("out"));
    Files.write(folder.resolve("out").resolve("Use.java"), fenced("java"));
    List<String> commands = commands();
    checks.same("the commands", commands.toString(), List.of(COMMANDS).toString());
    for (String command : commands) {
      if (command.equals(".ci/run")) { // it runs this very test
        checks.due(command, Files.isExecutable(Path.of(command)) ? 1 : 0, 1);
        continue;
      }
      List<String> printed = run(folder, command.replace(" 5000", " 3"));
      if (command.endsWith(" Use")) {
        checks.same(command, String.join("\n", printed), String.join("\n", fenced("text")));
      }
    }
  }

  /** What a command prints; it must end well. */
  private List<String> run(Path folder, String command) throws IOException, InterruptedException {
    Process process = new ProcessBuilder("bash", "-c", command).directory(folder.toFile())
        .redirectErrorStream(true).start();
    String all = new String(process.getInputStream().readAllBytes(), StandardCharsets.UTF_8);
    int ended = process.waitFor();
    checks.due(command + ended(ended, all), ended, 0);
    return all.lines().toList();
  }

  private static String ended(int code, String printed) {
    return code == 0 ? "" : " printed\n" + printed;
  }

  // ---- the page ----

  /** The lines between ``` and a word, and the next ```. */
  private List<String> fenced(String word) {
    int start = lines.indexOf("```" + word) + 1;
    checks.due("there is ```" + word, start > 0 ? 1 : 0, 1);
    List<String> rest = lines.subList(start, lines.size());
    return new ArrayList<>(rest.subList(0, rest.indexOf("```")));
  }

  /** The lines that are set in by four, but for those of the program. */
  private List<String> commands() {
    List<String> commands = new ArrayList<>();
    boolean inside = false;
    for (String line : lines) {
      if (line.startsWith("```")) {
        inside = !inside;
      } else if (!inside && line.startsWith("    ")) {
        commands.add(line.strip());
      }
    }
    return commands;
  }

  private List<Matcher> rows(String pattern) {
    List<Matcher> rows = new ArrayList<>();
    for (String line : lines) {
      Matcher row = Pattern.compile(pattern).matcher(line);
      if (row.matches()) {
        rows.add(row);
      }
    }
    return rows;
  }

  /** Every call stands just once, in a row whose promises are as many as its calls. */
  private void namesAllCalls() {
    Set<String> due = new TreeSet<>();
    for (Method method : SkippingKeys.class.getDeclaredMethods()) {
      if (Modifier.isPublic(method.getModifiers())) {
        due.add(method.getName());
      }
    }
    Set<String> named = new TreeSet<>();
    int promise = 1;
    for (Matcher row : rows("\\| [^`]*: ((?:`\\w+` )+)\\| (\\d+) to (\\d+) \\|")) {
      checks.due("the first promise of " + row.group(1), Integer.parseInt(row.group(2)),
          promise + 1);
      for (String name : row.group(1).split(" ")) {
        promise++;
        named.add(name.replace("`", ""));
      }
      checks.due("the last promise of " + row.group(1), Integer.parseInt(row.group(3)), promise);
    }
    checks.due("promises", promise, LAST_PROMISE);
    checks.same("calls", named.toString(), due.toString());
  }

  /** Each refusal that it tells is answered so, and counted there. */
  private void tellsRefusals() {
    List<Matcher> rows = rows("\\| (-\\d+)(?: and less)? \\| .* \\| (\\d+) \\|");
    checks.due("refusals", rows.size(), 6);
    for (Matcher row : rows) {
      SkippingKeys x = new SkippingKeys();
      x.gone(0);
      x.show(0, 0);
      int number = Integer.parseInt(row.group(1));
      checks.due("refused", refused(x, number), number);
      for (int what = 12; what <= 16; what++) {
        int due = what == Integer.parseInt(row.group(2)) ? 1 : 0;
        checks.due("refused " + number + ", status " + what, x.status(what), due);
      }
    }
  }

  private static int refused(SkippingKeys x, int number) {
    switch (number) {
      case -102:
        return x.strike(0);
      case -103:
        return x.set(0, 0, 1);
      case -104:
        return x.set(1, 0, 1);
      case -105:
        return x.back();
      case -106:
        for (int i = 0; i < 60; i++) {
          x.line(1, 2, 3);
        }
        return x.line(1, 2, 3);
      default:
        return x.table();
    }
  }

  /** Every test is named, and what is named is there. */
  private void namesAllTests() throws IOException {
    String page = String.join("\n", lines);
    Set<String> edges = new TreeSet<>();
    for (Path file : javaFiles(TESTS)) {
      String name = file.getFileName().toString().replace(".java", "");
      boolean isEdge = name.startsWith("Edge") && name.endsWith("Test");
      if (isEdge) {
        edges.add(name);
      } else if (name.endsWith("Test")) {
        checks.due(name + " is named", page.contains("| `" + TESTS + "/" + name + ".java`") ? 1 : 0,
            1);
      }
    }
    Set<String> named = new TreeSet<>();
    for (Matcher row : rows("\\| `(Edge\\w+)` \\| .*")) {
      named.add(row.group(1));
    }
    checks.same("edge tests", named.toString(), edges.toString());
    for (Matcher row : rows("\\| `(src/\\w+/java/\\w+\\.java)` \\| .*")) {
      checks.due(row.group(1) + " is there", Files.exists(Path.of(row.group(1))) ? 1 : 0, 1);
    }
    for (Matcher link : rows(".*`(\\.\\./shared/(?:DOC|LANGUAGE)\\.md)`.*")) {
      checks.due(link.group(1) + " is there", Files.exists(Path.of(link.group(1))) ? 1 : 0, 1);
    }
  }

  // ---- files ----

  private static List<Path> javaFiles(Path folder) throws IOException {
    try (Stream<Path> files = Files.list(folder)) {
      return files.filter(file -> file.toString().endsWith(".java")).sorted().toList();
    }
  }

  private static void removeAll(Path folder) throws IOException {
    try (Stream<Path> files = Files.walk(folder)) {
      files.sorted(Comparator.reverseOrder()).forEach(ReadmeTest::remove);
    }
  }

  private static void remove(Path file) {
    try {
      Files.delete(file);
    } catch (IOException thrown) {
      throw new UncheckedIOException(thrown);
    }
  }
}
