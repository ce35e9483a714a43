import java.nio.file.Files;
import java.nio.file.Path;
import java.util.regex.Matcher;
import java.util.regex.Pattern;

/** Those rules of LANGUAGE.md that can be seen in the text of the class; .ci/run starts it in the project's folder. */
public final class LanguageTest {
  private static final String[] RULED_OUT = {"\\bpackage\\b", "\\bimport\\b", "->", "::", "\\bfinally\\b",
    "\\bsynchronized\\b", "\\bassert\\b", "\\bstatic\\s*\\{", "Exact\\b", "\\bvar\\b", "\\btry\\s*\\(",
    "\\bSystem\\.(?!arraycopy\\b)", "\\bThread\\b", "\\bRandom\\b", "\\bgetMessage\\b", "\\bhashCode\\b",
    "\\btoString\\b", "\\bequals\\b", "\\bObject\\b", "[^\\x00-\\x7f]"};
  /** What the machine throws, and the classes above that. */
  private static final String MACHINE = "catch \\((Throwable|Exception|RuntimeException|Error|VirtualMachineError"
    + "|StackOverflowError|OutOfMemoryError|ArrayIndexOutOfBoundsException|IndexOutOfBoundsException"
    + "|NullPointerException|ArithmeticException|ClassCastException|NegativeArraySizeException|ArrayStoreException)";
  private static final int LONGEST_METHOD = 60;

  public static void main(String[] args) throws Exception {
    Check check = new Check("LanguageTest");
    String text = Files.readString(Path.of("src/main/java/EggMinute.java"));
    String code = text.replaceAll("(?s)/\\*.*?\\*/", "").replaceAll("//[^\n]*", "");
    for (String pattern : RULED_OUT) {
      check.dueTrue("no " + pattern, !Pattern.compile(pattern).matcher(code).find());
    }
    check.dueTrue("nothing of the machine is caught", !Pattern.compile(MACHINE).matcher(code).find());
    Matcher parameters = Pattern.compile("\\w+ \\w+\\(([^()]*)\\)[^;{]*\\{").matcher(code);
    while (parameters.find()) {
      check.dueTrue("at most seven parameters: " + parameters.group(), parameters.group(1).split(",").length <= 7);
    }
    Matcher method = Pattern.compile("(?m)^( +)[^\\n]*\\)[^\\n;]*\\{\\n(?s:.*?)\\n\\1\\}$").matcher(code);
    while (method.find()) {
      long lines = method.group().lines().count();
      check.dueTrue("short: " + method.group().lines().findFirst().orElse(""), lines <= LONGEST_METHOD);
    }
    check.end();
  }
}
