import java.io.IOException;
import java.lang.reflect.Method;
import java.lang.reflect.Modifier;
import java.nio.file.Files;
import java.nio.file.Path;
import java.util.ArrayList;
import java.util.Comparator;
import java.util.List;
import java.util.Set;
import java.util.TreeSet;
import java.util.concurrent.TimeUnit;
import java.util.regex.Matcher;
import java.util.regex.Pattern;
import java.util.stream.Collectors;
import java.util.stream.Stream;

/** What README.md says: its Java answers as its comments tell, its table has every call, its commands run. */
public final class ReadmeTest {
  /** A call that stands alone, and behind it in a comment what it answers. */
  private static final Pattern ANSWERED = Pattern.compile("(x\\.\\w+\\(.*\\));\\s*// (-?\\d+|true|false)(?=[:\\s]|$).*");
  private static int wrong = 0;
  private static void must(boolean holds, String what) { if (!holds) { wrong++; System.out.println("README.md: " + what); } }

  public static void main(String[] args) throws Exception {
    String page = Files.readString(Path.of("README.md"));
    Path out = Files.createTempDirectory("readme");
    try {
      example(blocks(page, "java"), out);
      table(page);
      commands(blocks(page, "sh"), out);
    } finally {
      remove(out);
    }
    System.out.println(wrong == 0 ? "README.md is so" : wrong + " things of README.md are not so");
    if (wrong != 0) System.exit(1);
  }

  private static List<String> blocks(String page, String language) {
    List<String> found = new ArrayList<>();
    Matcher m = Pattern.compile("(?m)^```" + language + "\n((?:(?!```).*\n)*)```$").matcher(page);
    while (m.find()) found.add(m.group(1));
    must(!found.isEmpty(), "it has " + language);
    return found;
  }

  /** The blocks of Java are one program: what begins with a comment or static are its methods. */
  private static void example(List<String> blocks, Path out) throws Exception {
    StringBuilder methods = new StringBuilder(), body = new StringBuilder();
    int answers = 0;
    for (String block : blocks) {
      if (block.startsWith("/**") || block.startsWith("static ")) { methods.append(block); continue; }
      for (String line : block.split("\n")) {
        Matcher m = ANSWERED.matcher(line);
        if (m.matches()) {
          answers++;
          body.append("due(\"").append(m.group(1)).append("\", String.valueOf(").append(m.group(1)).append("), \"").append(m.group(2)).append("\");\n");
        } else {
          must(!line.contains("//"), "an answer is due: " + line);
          body.append(line).append('\n');
        }
      }
    }
    must(answers >= 25, "it has answers: " + answers);
    String program = "public final class ReadmeExample {\n"
        + "static int wrong = 0;\n"
        + "static void due(String call, String got, String want) { if (!got.equals(want)) { wrong++; System.out.println(call + \" answered \" + got + \", README.md says \" + want); } }\n"
        + methods + "public static void main(String[] args) {\n" + body + "if (wrong != 0) System.exit(1);\n}\n}\n";
    Path file = out.resolve("ReadmeExample.java");
    Files.writeString(file, program);
    must(run("javac -encoding UTF-8 -d '" + out + "/example' src/main/java/SafeVolumes.java '" + file + "'"), "its Java compiles");
    must(run("java -cp '" + out + "/example' ReadmeExample"), "its Java answers as it says");
  }

  private static void table(String page) {
    Set<String> told = new TreeSet<>(), due = new TreeSet<>();
    for (String line : page.split("\n")) {
      if (!line.startsWith("| `")) continue;
      Matcher m = Pattern.compile("`(\\w+)\\(([^)]*)\\)`").matcher(line.substring(0, line.indexOf('|', 1)));
      while (m.find()) must(told.add(m.group(1) + " " + (m.group(2).isEmpty() ? 0 : m.group(2).split(",").length)), m.group(1) + " stands once");
    }
    for (Method m : SafeVolumes.class.getDeclaredMethods()) if (Modifier.isPublic(m.getModifiers())) due.add(m.getName() + " " + m.getParameterCount());
    must(told.equals(due), "its table has every call: " + told);
  }

  /** All but .ci/run, which runs this test itself; what they make goes beside, not into build. */
  private static void commands(List<String> blocks, Path out) throws Exception {
    boolean all = false;
    int one = 0;
    for (String block : blocks) {
      for (String line : block.split("\n")) {
        if (line.equals(".ci/run")) { all = Files.isExecutable(Path.of(line)); continue; }
        must(line.startsWith("javac ") || line.startsWith("java "), "javac and java alone: " + line);
        must(run(line.replace(" build/", " " + out + "/")), "this runs: " + line);
        one++;
      }
    }
    must(all, ".ci/run is there");
    must(one >= 4, "it says how to run one test");
  }

  private static boolean run(String command) throws IOException, InterruptedException {
    Process p = new ProcessBuilder("sh", "-c", command).redirectErrorStream(true).redirectOutput(ProcessBuilder.Redirect.INHERIT).start();
    if (p.waitFor(300, TimeUnit.SECONDS)) return p.exitValue() == 0;
    p.destroyForcibly();
    return false;
  }

  private static void remove(Path out) throws IOException {
    try (Stream<Path> all = Files.walk(out)) {
      for (Path p : all.sorted(Comparator.reverseOrder()).collect(Collectors.toList())) Files.delete(p);
    }
  }
}
