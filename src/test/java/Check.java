/** Counts the answers that are not the ones that are due, and prints each. */
final class Check {
  private final String name;
  private int right = 0;
  private int wrong = 0;

  Check(String name) {
    this.name = name;
  }

  void due(String call, long got, long want) {
    dueText(call, Long.toString(got), Long.toString(want));
  }

  void dueText(String call, String got, String want) {
    if (got.equals(want)) {
      right++;
    } else {
      wrong++;
      System.out.println(name + ": " + call + " answered " + got + ", due is " + want);
    }
  }

  void dueTrue(String what, boolean holds) {
    due(what, holds ? 1 : 0, 1);
  }

  /** Ends the program with 1, if an answer was wrong. */
  void end() {
    System.out.println(name + ": " + right + " answers right, " + wrong + " wrong");
    if (wrong != 0 || right == 0) {
      System.exit(1);
    }
  }

  /** Puts a text into a new ROW of bytes. */
  static void text(EggMinute x, int d, String text) {
    x.row(d, 0, text.length());
    for (int i = 0; i < text.length(); i++) {
      x.put(d, i, text.charAt(i));
    }
  }

  /** Puts numbers into a new ROW. */
  static void numbers(EggMinute x, int d, int sort, int... numbers) {
    x.row(d, sort, numbers.length);
    for (int i = 0; i < numbers.length; i++) {
      x.put(d, i, numbers[i]);
    }
  }

  /** An egg read from a text; SHELF 7 is empty again behind it. */
  static EggMinute eggOf(String text) {
    EggMinute x = new EggMinute();
    text(x, 7, text);
    if (x.egg(7) < 1) {
      throw new IllegalArgumentException(text);
    }
    x.keep(7, 0, 0, 0);
    return x;
  }

  /** 0 if element answers, 1 if it throws IllegalArgumentException, 2 if IllegalStateException. */
  static int thrownBy(EggMinute x, int d, int i) {
    try {
      x.element(d, i);
      return 0;
    } catch (IllegalArgumentException e) {
      return 1;
    } catch (IllegalStateException e) {
      return 2;
    }
  }
}
