import java.io.IOException;
import java.nio.charset.StandardCharsets;
import java.nio.file.Files;
import java.nio.file.Path;
import java.util.ArrayList;
import java.util.Comparator;
import java.util.List;
import java.util.regex.Matcher;
import java.util.regex.Pattern;
import java.util.stream.Stream;

/**
 * README.md: its example is typed into a shell as it stands, in a folder that has the class where
 * this one has it, and must answer what README.md says; and it names all exceptions and tests.
 */
public final class ReadmeTest {
  public static void main(String[] args) throws IOException, InterruptedException {
    Path source = Path.of(args[0]);
    String readme = Files.readString(Path.of("README.md"));
    List<String> blocks = blocks(readme);
    Check.is("blocks: what to type, and what it answers", 2, blocks::size);
    Check.same("the example", blocks.get(1), typed(source, blocks.get(0)));
    names(readme);
    Check.end();
  }

  private static List<String> blocks(String readme) {
    List<String> blocks = new ArrayList<>();
    Matcher block = Pattern.compile("(?ms)^```(?:sh)?\n(.*?)^```$").matcher(readme);
    while (block.find()) {
      blocks.add(block.group(1));
    }
    return blocks;
  }

  /** What is answered; what is told of faults goes where the tests tell theirs. */
  private static String typed(Path source, String commands)
      throws IOException, InterruptedException {
    Path folder = Files.createTempDirectory("readme");
    try {
      Path copy = folder.resolve("src/main/java/Portsmith.java");
      Files.createDirectories(copy.getParent());
      Files.copy(source, copy);
      Process shell = new ProcessBuilder("sh", "-e", "-c", commands)
          .directory(folder.toFile()).redirectError(ProcessBuilder.Redirect.INHERIT).start();
      String answer = new String(shell.getInputStream().readAllBytes(), StandardCharsets.UTF_8);
      Check.is("the shell's end", 0, () -> ended(shell));
      return answer;
    } finally {
      remove(folder);
    }
  }

  private static int ended(Process shell) {
    try {
      return shell.waitFor();
    } catch (InterruptedException e) {
      return -1;
    }
  }

  private static void remove(Path folder) throws IOException {
    List<Path> paths;
    try (Stream<Path> all = Files.walk(folder)) {
      paths = all.sorted(Comparator.reverseOrder()).toList();
    }
    for (Path path : paths) {
      Files.delete(path);
    }
  }

  private static void names(String readme) throws IOException {
    String[] texts = {"IndexOutOfBoundsException", "IllegalArgumentException",
        "IllegalStateException", "\n    .ci/run\n", "../shared/DOC.md", "../shared/LANGUAGE.md"};
    for (String text : texts) {
      Check.holds("README.md has " + text, true, () -> readme.contains(text));
    }
    try (Stream<Path> tests = Files.list(Path.of("src/test/java"))) {
      for (Path test : tests.toList()) {
        String name = test.getFileName().toString().replace(".java", "");
        if (name.endsWith("Test")) {
          Check.holds("README.md names " + name, true, () -> readme.contains("`" + name + "`"));
        }
      }
    }
  }
}
