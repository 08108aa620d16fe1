import java.io.IOException;
import java.nio.file.Files;
import java.nio.file.Path;
import java.util.regex.Matcher;
import java.util.regex.Pattern;

/** README.md holds: its program prints what it says, and it names each call and each constant of the face. */
public final class ReadmeTest {
  private static int wrong = 0;

  private ReadmeTest() {
  }

  private static void wrong(String what) {
    wrong++;
    System.out.println("README.md: " + what);
  }

  private static String block(String readme, String language) {
    Matcher m = Pattern.compile("```" + language + "\n(.*?)```", Pattern.DOTALL).matcher(readme);
    if (m.find()) return m.group(1);
    wrong("there is no block of " + language);
    return "";
  }

  private static String printed(Path directory, String program) throws IOException, InterruptedException {
    Path source = directory.resolve("Example.java");
    Files.writeString(source, program);
    // Java runs a single file from its source, and compiles it against the class that this test was compiled with.
    Path java = Path.of(System.getProperty("java.home"), "bin", "java");
    Process example = new ProcessBuilder(java.toString(), "-cp", System.getProperty("java.class.path"), source.toString())
        .redirectErrorStream(true).start();
    String out = new String(example.getInputStream().readAllBytes());
    if (example.waitFor() != 0) wrong("its program ends with exit code " + example.exitValue());
    Files.delete(source);
    return out.replace("\r\n", "\n");
  }

  private static void programPrintsWhatItSays(String readme) throws IOException, InterruptedException {
    Path directory = Files.createTempDirectory("readme");
    String out = printed(directory, block(readme, "java"));
    Files.delete(directory);
    if (!out.equals(block(readme, "text"))) wrong("its program prints\n" + out);
  }

  private static void namesTheWholeFace(String readme) {
    for (String call : Call.face(WheelCity.class).keySet())
      if (!readme.contains("`" + call + "`")) wrong("it doesn't name " + call);
    for (String constant : new String[] {"`BAD` (" + WheelCity.BAD, "`FULL` (" + WheelCity.FULL,
        "`NONE` (" + WheelCity.NONE, "`STATE` (" + WheelCity.STATE})
      if (!readme.contains(constant + ")")) wrong("it doesn't name " + constant + ")");
  }

  public static void main(String[] args) throws IOException, InterruptedException {
    String readme = Files.readString(Path.of("README.md")).replace("\r\n", "\n");
    programPrintsWhatItSays(readme);
    namesTheWholeFace(readme);
    System.out.println("readme: " + (wrong == 0 ? "all holds" : wrong + " things don't hold"));
    if (wrong != 0) System.exit(1);
  }
}
