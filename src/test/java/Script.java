import java.lang.reflect.InvocationTargetException;
import java.lang.reflect.Method;
import java.util.ArrayList;
import java.util.List;
import java.util.Set;

/**
 * A run of calls on a new object, told as rows "go(1, 600) = 600", for one sentence of the document.
 * Each answer must be the one in its row; and behind each call that was refused, or that only
 * tells something, an object must show just what one shows on which that call was never made.
 * An answer "throws.IllegalStateException" is that exception; MIN and MAX are the least and the
 * greatest int.
 */
final class Script {
  private static final Set<String> CHANGING =
      Set.of("egg", "set", "fresh", "go", "image", "restore", "keep", "row", "put", "copy");
  /** An object need not answer behind 512 calls, and looking at all of it takes some 330. */
  private static final int MOST_ROWS = 180;

  private final Check check;
  private final String sentence;
  private final List<Row> rows = new ArrayList<>();

  Script(Check check, String sentence) {
    this.check = check;
    this.sentence = sentence;
  }

  /** Rows "call(arguments) = answer". */
  Script due(String... texts) {
    for (String text : texts) {
      int at = text.lastIndexOf(" = ");
      rows.add(new Row(text.substring(0, at).trim(), text.substring(at + 3).trim()));
    }
    return this;
  }

  /** % in the call becomes the first number outside on each side, and the least and greatest int. */
  Script outside(String call, int least, int most, String answer) {
    for (int n : new int[] {least - 1, most + 1, Integer.MIN_VALUE, Integer.MAX_VALUE}) {
      rows.add(new Row(call.replace("%", Integer.toString(n)), answer));
    }
    return this;
  }

  /** A new ROW of bytes with a text. */
  Script text(int d, String text) {
    int[] signs = new int[text.length()];
    for (int i = 0; i < signs.length; i++) {
      signs[i] = text.charAt(i);
    }
    return numbers(d, 0, signs);
  }

  /** A new ROW with numbers. */
  Script numbers(int d, int sort, int... numbers) {
    due("row(" + d + ", " + sort + ", " + numbers.length + ") = 0");
    for (int i = 0; i < numbers.length; i++) {
      due("put(" + d + ", " + i + ", " + numbers[i] + ") = 0");
    }
    return this;
  }

  void end() {
    check.dueTrue(sentence + ": not too many calls for an object", rows.size() <= MOST_ROWS);
    EggMinute x = new EggMinute();
    for (Row row : rows) {
      check.dueText(sentence + ": " + row.call, row.answer(x), row.due);
    }
    for (int i = 0; i < rows.size(); i++) {
      if (!rows.get(i).changes()) {
        looksUnchanged(i);
      }
    }
  }

  private void looksUnchanged(int i) {
    EggMinute with = behind(i);
    EggMinute without = behind(i);
    rows.get(i).answer(with);
    check.dueTrue(sentence + ": " + rows.get(i).call + " changes nothing", shown(with).equals(shown(without)));
  }

  /** An object behind those of the first rows that change something. */
  private EggMinute behind(int count) {
    EggMinute x = new EggMinute();
    for (int i = 0; i < count; i++) {
      if (rows.get(i).changes()) {
        rows.get(i).answer(x);
      }
    }
    return x;
  }

  /** All that can be seen of an object, in some 330 calls; it isn't as it was any more behind that. */
  private static List<Long> shown(EggMinute x) {
    List<Long> seen = new ArrayList<>();
    showEgg(x, seen);
    for (int d = 0; d < 8; d++) {
      showShelf(x, d, seen);
    }
    seen.add((long) x.restore());
    showEgg(x, seen);
    return seen;
  }

  private static void showEgg(EggMinute x, List<Long> seen) {
    for (int what = 0; what < 6; what++) {
      seen.add((long) x.count(what));
      seen.add((long) x.state(what));
    }
    int shells = x.count(0);
    for (int i = 0; i < shells; i++) {
      for (int what = 0; what < 4; what++) {
        seen.add((long) x.shell(i, what));
      }
    }
    // Y itself, which the SHELLS may hide
    seen.add((long) x.set(1, 0));
  }

  private static void showShelf(EggMinute x, int d, List<Long> seen) {
    seen.add((long) x.weight(d));
    seen.add((long) x.toss(d));
    seen.add((long) x.pot(d, 0));
    seen.add((long) x.pot(d, 61));
    for (int i : new int[] {0, 1, 2, 3, 4, 5, 98, 99}) {
      int thrown = Check.thrownBy(x, d, i);
      seen.add(thrown == 0 ? x.element(d, i) : Long.MIN_VALUE + thrown);
    }
    // the SORT shows in what is kept of a number
    if (x.put(d, 0, 70000) == 0) {
      seen.add(x.element(d, 0));
    }
  }

  private static final class Row {
    final String call;
    final String due;
    private final Method method;
    private final Object[] arguments;

    Row(String call, String due) {
      this.call = call;
      this.due = due;
      String name = call.substring(0, call.indexOf('('));
      String inside = call.substring(call.indexOf('(') + 1, call.lastIndexOf(')')).trim();
      String[] parts = inside.isEmpty() ? new String[0] : inside.split("\\s*,\\s*");
      method = methodOf(name);
      arguments = new Object[parts.length];
      for (int i = 0; i < parts.length; i++) {
        arguments[i] = argumentOf(parts[i]);
      }
    }

    private static Method methodOf(String name) {
      for (Method m : EggMinute.class.getDeclaredMethods()) {
        if (m.getName().equals(name)) {
          return m;
        }
      }
      throw new IllegalArgumentException(name);
    }

    private static Object argumentOf(String part) {
      switch (part) {
        case "MIN":
          return Integer.MIN_VALUE;
        case "MAX":
          return Integer.MAX_VALUE;
        case "true":
        case "false":
          return Boolean.valueOf(part);
        default:
          return Integer.valueOf(part);
      }
    }

    boolean changes() {
      return CHANGING.contains(method.getName()) && !due.startsWith("-") && !due.startsWith("throws");
    }

    String answer(EggMinute x) {
      try {
        return String.valueOf(method.invoke(x, arguments));
      } catch (InvocationTargetException thrown) {
        return "throws." + thrown.getCause().getClass().getSimpleName();
      } catch (IllegalAccessException wrong) {
        throw new IllegalArgumentException(wrong);
      }
    }
  }
}
