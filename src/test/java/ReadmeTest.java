import java.io.ByteArrayOutputStream;
import java.io.PrintStream;
import java.net.URL;
import java.net.URLClassLoader;
import java.nio.file.Files;
import java.nio.file.Path;
import java.util.ArrayList;
import java.util.List;
import java.util.TreeSet;
import java.util.regex.Matcher;
import java.util.regex.Pattern;
import javax.tools.JavaCompiler;
import javax.tools.ToolProvider;

/**
 * README.md: its blocks of Java are compiled as they stand there, and each call in them must answer
 * what the page tells behind it; .ci/run starts it in the project's folder.
 */
public final class ReadmeTest {
  private static final Check check = new Check("ReadmeTest");
  private static final Pattern BLOCK = Pattern.compile("(?ms)^```java\\n(.*?)^```$");
  private static final Pattern PRINTED = Pattern.compile("(?ms)^```text\\n(.*?)^```$");
  private static final Pattern CALL = Pattern.compile("(x\\.(\\w+)\\(.*\\));\\s*// (-?\\d+|throws \\w+)(: .*)?");
  private static final Pattern FIGURE =
      Pattern.compile("(?m)^\\| (\\d) \\| (\\w) \\| .* \\| (\\d+) to (\\d+) \\| (\\d+) \\|$");
  private static final Pattern PLACE = Pattern.compile("`((\\.\\./|\\.ci/|src/|NOTES)[\\w./]*)`");

  public static void main(String[] args) throws Exception {
    String page = Files.readString(Path.of("README.md"));
    List<String> blocks = all(BLOCK, page);
    wholeProgram(blocks.remove(0), all(PRINTED, page).get(0));
    showsEachCall(blocks);
    for (int i = 0; i < blocks.size(); i++) {
      answersAsTold("Block" + i, blocks.get(i));
    }
    figuresAsTold(page);
    for (String place : all(PLACE, page)) {
      check.dueTrue(place + " is there", Files.exists(Path.of(place)));
    }
    check.dueTrue(".ci/run can be run", Files.isExecutable(Path.of(".ci/run")));
    check.end();
  }

  private static List<String> all(Pattern pattern, String page) {
    List<String> found = new ArrayList<>();
    Matcher matcher = pattern.matcher(page);
    while (matcher.find()) {
      found.add(matcher.group(1));
    }
    return found;
  }

  private static void wholeProgram(String program, String printed) throws Exception {
    check.dueText("Boil prints", outputOf("Boil", program), printed);
  }

  private static void showsEachCall(List<String> blocks) {
    TreeSet<String> missing = new TreeSet<>();
    for (java.lang.reflect.Method m : EggMinute.class.getDeclaredMethods()) {
      if (java.lang.reflect.Modifier.isPublic(m.getModifiers())) {
        missing.add(m.getName());
      }
    }
    for (String block : blocks) {
      Matcher call = CALL.matcher(block);
      while (call.find()) {
        missing.remove(call.group(2));
      }
    }
    check.dueText("calls that the page doesn't show", missing.toString(), "[]");
  }

  /** Calls at the left edge must tell their answer; all else in a block is run as it stands. */
  private static void answersAsTold(String name, String block) throws Exception {
    StringBuilder body = new StringBuilder();
    StringBuilder due = new StringBuilder();
    for (String line : block.split("\n")) {
      Matcher call = CALL.matcher(line);
      if (call.matches()) {
        body.append(printing(call.group(1)));
        due.append(call.group(1)).append(" // ").append(call.group(3)).append('\n');
      } else {
        check.dueTrue("tells its answer: " + line, !line.startsWith("x."));
        body.append(line).append('\n');
      }
    }
    String program = "public class " + name + " { public static void main(String[] a) {\n" + body + "} }\n";
    String[] told = due.toString().split("\n");
    String[] answered = outputOf(name, program).split("\n");
    check.due(name + ": answers", answered.length, told.length);
    for (int i = 0; i < Math.min(told.length, answered.length); i++) {
      check.dueText("README's " + told[i], answered[i], told[i]);
    }
  }

  private static void figuresAsTold(String page) {
    Matcher told = FIGURE.matcher(page);
    int figures = 0;
    while (told.find()) {
      int what = Integer.parseInt(told.group(1));
      int least = Integer.parseInt(told.group(3));
      int most = Integer.parseInt(told.group(4));
      int first = Integer.parseInt(told.group(5));
      EggMinute x = new EggMinute();
      check.due("below the least of figure " + what, x.set(what, least - 1), -1);
      check.due("above the most of figure " + what, x.set(what, most + 1), -1);
      check.due("figure " + what + " at first", x.set(what, least), first);
      Check.text(x, 0, told.group(2) + most + ";");
      check.due("the letter of figure " + what, x.egg(0), 1);
      check.due("figure " + what + " is that of the letter", x.set(what, least), most);
      figures++;
    }
    check.due("figures told", figures, 6);
  }

  private static String printing(String call) {
    String text = "\"" + call + " // \"";
    return "try { System.out.println(" + text + " + " + call + "); } catch (RuntimeException thrown) {"
        + " System.out.println(" + text + " + \"throws \" + thrown.getClass().getSimpleName()); }\n";
  }

  private static String outputOf(String name, String program) throws Exception {
    Path dir = Files.createTempDirectory("readme");
    Path source = dir.resolve(name + ".java");
    Files.writeString(source, program);
    JavaCompiler compiler = ToolProvider.getSystemJavaCompiler();
    String path = System.getProperty("java.class.path");
    int result = compiler.run(null, null, null, "-cp", path, "-d", dir.toString(), source.toString());
    String printed = result == 0 ? printedBy(name, dir) : "doesn't compile";
    Files.deleteIfExists(source);
    Files.deleteIfExists(dir.resolve(name + ".class"));
    Files.deleteIfExists(dir);
    return printed;
  }

  private static String printedBy(String name, Path dir) throws Exception {
    ByteArrayOutputStream bytes = new ByteArrayOutputStream();
    PrintStream out = System.out;
    try (URLClassLoader loader = new URLClassLoader(new URL[] {dir.toUri().toURL()})) {
      System.setOut(new PrintStream(bytes, true));
      loader.loadClass(name).getMethod("main", String[].class).invoke(null, (Object) new String[0]);
    } finally {
      System.setOut(out);
    }
    return bytes.toString();
  }
}
