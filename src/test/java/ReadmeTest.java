import java.io.IOException;
import java.lang.reflect.Method;
import java.lang.reflect.Modifier;
import java.nio.charset.StandardCharsets;
import java.nio.file.Files;
import java.nio.file.Path;
import java.util.ArrayList;
import java.util.Collections;
import java.util.Comparator;
import java.util.List;
import java.util.Set;
import java.util.TreeSet;
import java.util.regex.Matcher;
import java.util.regex.Pattern;
import java.util.stream.Stream;

/**
 * README.md holds: its example is saved and run as it stands there, by the commands that stand there, in a directory of its
 * own, and prints what it tells behind each line; no call is missing in the example or in the table, no test in the list.
 */
public final class ReadmeTest {
  private static final Path README = Path.of("README.md"), SOURCES = Path.of("src"), TESTS = Path.of("src/test/java");
  private static final Pattern TOLD = Pattern.compile("^ +say\\(.*\\); +// ([^:]+)(: .+)?$");
  private static int wrong = 0;

  public static void main(String[] args) throws Exception {
    String readme = Files.readString(README);
    List<String> programs = blocks(readme, "java"), commands = blocks(readme, "sh");
    holds(programs.size() == 1 && commands.size() == 2, "README.md has another number of examples than are run here");
    holds(blocks(readme, "\\w*").size() == 3, "README.md has examples of a kind that is not run here");
    if (wrong == 0) {
      Path room = copyOfSources();
      try {
        example(room, programs.get(0), commands.get(0));
        holds(run(room, commands.get(1)) != null, "the commands for one test fail");
      } finally {
        remove(room);
      }
      callsAreThere(programs.get(0), readme);
    }
    testsAreThere(readme);
    System.out.println(wrong == 0 ? "README.md holds" : wrong + " things that README.md tells do not hold");
    if (wrong != 0) System.exit(1);
  }

  private static void holds(boolean so, String what) {
    if (!so) {
      wrong++;
      System.out.println(what);
    }
  }

  private static List<String> blocks(String readme, String kind) {
    List<String> found = new ArrayList<>();
    Matcher block = Pattern.compile("(?ms)^```" + kind + "\\n(.*?)^```$").matcher(readme);
    while (block.find()) found.add(block.group(1));
    return found;
  }

  private static void example(Path room, String program, String commands) throws Exception {
    Files.writeString(room.resolve("Example.java"), program);
    List<String> printed = run(room, commands), told = new ArrayList<>();
    if (printed == null) {
      holds(false, "the example's commands fail");
      return;
    }
    for (String line : program.split("\n")) {
      if (!line.contains("say(") || line.contains("void say(")) continue;
      Matcher answer = TOLD.matcher(line);
      boolean isTold = answer.matches();
      holds(isTold, "tells no answer: " + line);
      if (isTold && told.size() < printed.size()) {
        holds(answer.group(1).equals(printed.get(told.size())), "prints " + printed.get(told.size()) + ": " + line);
      }
      told.add(line);
    }
    holds(told.size() == printed.size(), told.size() + " answers are told, " + printed.size() + " printed");
    System.out.println(told.size() + " answers of the example");
  }

  private static void callsAreThere(String program, String readme) {
    for (Method m : OneStrokes.class.getDeclaredMethods()) {
      if (!Modifier.isPublic(m.getModifiers())) continue;
      holds(program.contains("x." + m.getName() + "("), "not in the example: " + m.getName());
      Matcher inTable = Pattern.compile("(?m)^\\|.*`" + m.getName() + "\\(([^)]*)\\)`.*\\|$").matcher(readme);
      boolean isThere = inTable.find();
      holds(isThere, "not in the table: " + m.getName());
      if (isThere) {
        int numbers = inTable.group(1).isEmpty() ? 0 : inTable.group(1).split(",").length;
        holds(numbers == m.getParameterCount(), "has other numbers in the table: " + m.getName());
      }
    }
  }

  private static void testsAreThere(String readme) throws IOException {
    Set<String> listed = new TreeSet<>(), there = new TreeSet<>();
    Matcher item = Pattern.compile("(?m)^- `(\\w+)`: ").matcher(readme);
    while (item.find()) listed.add(item.group(1));
    try (Stream<Path> files = Files.list(TESTS)) {
      files.forEach(file -> there.add(file.getFileName().toString().replace(".java", "")));
    }
    holds(listed.equals(there), "tests listed: " + listed + ", tests there: " + there);
    holds(readme.contains("\n    .ci/run\n") && Files.isExecutable(Path.of(".ci/run")), "README.md tells how all tests are run");
  }

  /** What the commands print, or null if one of them fails. */
  private static List<String> run(Path room, String commands) throws Exception {
    Process process = new ProcessBuilder("sh", "-ec", commands).directory(room.toFile())
        .redirectError(ProcessBuilder.Redirect.INHERIT).start();
    process.getOutputStream().close();
    String printed = new String(process.getInputStream().readAllBytes(), StandardCharsets.UTF_8);
    return process.waitFor() == 0 ? List.of(printed.split("\n")) : null;
  }

  private static Path copyOfSources() throws IOException {
    // Where mktemp makes its own, too, as in .ci/run.
    Path room = Files.createTempDirectory(Path.of(System.getenv().getOrDefault("TMPDIR", "/tmp")), "readme");
    for (Path from : below(SOURCES)) Files.copy(from, room.resolve(from.toString()));
    return room;
  }

  private static List<Path> below(Path start) throws IOException {
    try (Stream<Path> all = Files.walk(start)) {
      return all.sorted().toList();
    }
  }

  private static void remove(Path room) throws IOException {
    List<Path> all = new ArrayList<>(below(room));
    Collections.sort(all, Comparator.reverseOrder());
    for (Path path : all) Files.delete(path);
  }
}
