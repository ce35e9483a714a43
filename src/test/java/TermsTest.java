/** The document's "Terms" and the text block below it: each range, "cut" and "no more than" by itself. */
public final class TermsTest {
  private static final Check check = new Check("TermsTest");

  public static void main(String[] args) {
    shellsFromTheMiddle();
    yolkBelowY();
    warmthAtFirst();
    passesOfEachPart();
    passesWhereTwoTouch();
    pots();
    cutTowardZero();
    eachReckonedByItself();
    setAboveTheLine();
    setNoMoreThan9999();
    peakAtFirst();
    greenFrom750();
    greenOfTheOutmostYolk();
    looseBelow100();
    check.end();
  }

  private static Script script(String sentence) {
    return new Script(check, sentence);
  }

  private static EggMinute egg(int shells, int y, int box, int pass) {
    return Check.eggOf("n" + shells + ";y" + y + ";b" + box + ";p" + pass + ";");
  }

  private static void shellsFromTheMiddle() {
    for (int n = 2; n <= 12; n++) {
      EggMinute x = egg(n, 0, 0, 2);
      x.keep(1, 1, 1, 0);
      x.go(1, 1);
      for (int i = 0; i < n; i++) {
        check.due(n + " shells, the outmost is the last: " + i, x.shell(i, 0), i == n - 1 ? 30 : 0);
      }
      x.go(1, 1);
      check.due(n + " shells, next to it", x.shell(n - 2, 0), 30 * 3 / 100);
    }
  }

  private static void yolkBelowY() {
    for (int n = 2; n <= 12; n++) {
      for (int y = 0; y <= 12; y++) {
        EggMinute x = egg(n, y, 0, 2);
        for (int i = 0; i < n; i++) {
          check.due("yolk of n" + n + " y" + y + ": " + i, x.shell(i, 3), i < y ? 1 : 0);
        }
        check.due("yolk shells of n" + n + " y" + y, x.count(1), y > n ? n : y);
        check.due("Y stays " + y, x.set(1, 0), y);
      }
    }
  }

  private static void warmthAtFirst() {
    for (int box : new int[] {0, 1, 50, 299, 300}) {
      EggMinute x = egg(12, 3, box, 10);
      for (int i = 0; i < 12; i++) {
        check.due("warmth at first is BOX " + box, x.shell(i, 0), box);
        check.due("peak at first is BOX " + box, x.shell(i, 1), box);
      }
      check.due("all warmths of BOX " + box, x.state(1), 12 * box);
    }
  }

  /** By a BOILED the outmost gets 10 times its hundredths from 0. */
  private static void passesOfEachPart() {
    int[] white = {1, 3, 4, 6, 7, 9, 10, 12, 13, 15, 16, 18, 19, 21, 22, 24, 25, 27, 28, 30, 31, 33, 34, 36, 37, 39, 40,
      42, 43, 45};
    for (int pass = 1; pass <= 30; pass++) {
      EggMinute x = egg(4, 0, 0, pass);
      x.keep(1, 1, 1, 0);
      x.go(1, 1);
      check.due("half more, cut, of " + pass, x.shell(3, 0), 10 * white[pass - 1]);
      x.set(1, 3);
      x.go(1, 1);
      check.due("the outmost is still white, by " + pass, x.shell(3, 0), 10 * white[pass - 1]);
      x.set(1, 4);
      x.go(1, 1);
      check.due("all yolk, by " + pass, x.shell(3, 0), 10 * pass);
      x.set(1, 12);
      x.go(1, 1);
      check.due("Y is more, by " + pass, x.shell(3, 0), 10 * pass);
    }
  }

  private static void passesWhereTwoTouch() {
    // yolk 20, white 30 hundredths: the outmost has 300 (white) or 200 (yolk) behind a second
    int[] due = {90, 90, 40};
    for (int y = 0; y <= 2; y++) {
      EggMinute x = egg(2, y, 0, 20);
      x.keep(1, 1, 1, 0);
      x.go(1, 2);
      check.due("two touch, by the outer one's, y " + y, x.shell(0, 0), due[y]);
      int outmost = y == 2 ? 200 - 40 + 160 : 300 - 90 + 210;
      check.due("and what one gets the other gives, y " + y, x.shell(1, 0), outmost);
    }
  }

  private static void pots() {
    int[] seconds = {0, 1, 2, 8, 9, 10, 11, 59, 60, 61, 62, 121, 122, 123, 128, 129, 130, 149, 150, 151, 299, 300, 301,
      449, 450, 451, 599, 600, 601, 899, 900, 901, 9998, 9999};
    for (int kind = 0; kind < 8; kind++) {
      for (int figure = 0; figure <= 60; figure++) {
        EggMinute x = new EggMinute();
        x.keep(1, 1, kind, figure);
        for (int t : seconds) {
          check.due("pot of " + kind + ", " + figure + " at " + t, x.pot(1, t), PlainEgg.pot(kind, figure, t));
        }
        for (int t : new int[] {figure, figure + 1, 2 * figure + 1, 2 * figure + 2, 5 * figure, 10 * figure}) {
          check.due("pot of " + kind + ", " + figure + " at " + t, x.pot(1, t), PlainEgg.pot(kind, figure, t));
        }
      }
    }
  }

  private static void cutTowardZero() {
    // by 1 hundredth: 99 tenths off are nothing, 100 are 1, whichever is the warmer
    script("cut toward 0").text(0, "n2;y12;p1;b101;").due("egg(0) = 4", "keep(1, 1, 0, 0) = 0", "keep(2, 1, 5, 0) = 0",
        "go(1, 600) = 600", "shell(1, 0) = 101", "set(2, 100) = 101", "go(1, 1) = 1", "shell(1, 0) = 101",
        "go(1, 600) = 601", "shell(1, 0) = 101", "shell(0, 0) = 100",
        "set(2, 119) = 100", "go(2, 600) = 600", "shell(1, 0) = 119", "set(2, 120) = 119", "go(2, 1) = 1",
        "shell(1, 0) = 119", "go(2, 600) = 601", "shell(1, 0) = 119", "shell(0, 0) = 120",
        "set(2, 219) = 120", "go(2, 1) = 1", "shell(1, 0) = 218", "go(2, 1) = 2", "shell(1, 0) = 217").end();
  }

  private static void eachReckonedByItself() {
    // the one between gets 15.3 and gives 0.63: 15 less 0, not 14
    script("each reckoned by itself, all by WARMTHS as they were").text(0, "n3;y2;b100;p7;").due("egg(0) = 4",
        "keep(1, 1, 1, 0) = 0", "go(1, 2) = 2", "shell(0, 0) = 100", "shell(1, 0) = 109", "shell(2, 0) = 262",
        "go(1, 1) = 3", "shell(0, 0) = 100", "shell(1, 0) = 124", "shell(2, 0) = 320").end();
  }

  /** Steps through many eggs, until each WARMTH round the LINE has been seen in the part. */
  private static void setAboveTheLine() {
    for (int y : new int[] {0, 12}) {
      int line = y == 0 ? 620 : 640;
      int[] warmths = {line - 1, line, line + 1, line + 9, line + 10, line + 11, line + 19, line + 20};
      int[] due = {0, 0, 1, 1, 2, 2, 2, 3};
      boolean[] seen = new boolean[warmths.length];
      for (int figure = 0; figure <= 60; figure++) {
        EggMinute x = egg(2, y, 300, 17);
        x.keep(1, 1, 3, figure);
        for (int s = 0; s < 60; s++) {
          int before = x.shell(1, 2);
          x.go(1, 1);
          int at = indexOf(warmths, x.shell(1, 0));
          if (at >= 0) {
            seen[at] = true;
            check.due("set at " + warmths[at] + ", line " + line, x.shell(1, 2) - before, due[at]);
          }
        }
      }
      for (int i = 0; i < seen.length; i++) {
        check.dueTrue("a warmth of " + warmths[i] + " comes up, line " + line, seen[i]);
      }
    }
  }

  private static int indexOf(int[] all, int n) {
    for (int i = 0; i < all.length; i++) {
      if (all[i] == n) {
        return i;
      }
    }
    return -1;
  }

  private static void setNoMoreThan9999() {
    EggMinute x = egg(2, 1, 300, 30);
    x.keep(1, 1, 1, 0);
    int[] before = new int[2];
    boolean[] full = new boolean[2];
    for (int s = 0; s < 100; s++) {
      x.go(1, 5);
      for (int i = 0; i < 2; i++) {
        int now = x.shell(i, 2);
        check.dueTrue("set goes up to 9999", now <= 9999 && (now > before[i] || now == 9999 || now == 0));
        // what a second brings is some 38: 9999 is no multiple that it would meet by itself
        full[i] |= now == 9999 && before[i] < 9999;
        before[i] = now;
      }
    }
    check.dueTrue("both come to 9999", full[0] && full[1]);
    check.due("each by itself, not all together", x.state(2), 2 * 9999);
  }

  private static void peakAtFirst() {
    script("PEAK: the greatest at the end of a SECOND (or at first)").text(0, "n2;y1;b300;p10;").due("egg(0) = 4",
        "keep(1, 1, 5, 0) = 0", "keep(2, 1, 1, 0) = 0", "keep(3, 1, 0, 0) = 0", "go(1, 1) = 1",
        "shell(1, 0) = 258", "shell(1, 1) = 300", "shell(0, 1) = 300", "state(5) = 300",
        "go(2, 1) = 2", "shell(1, 0) = 375", "shell(1, 1) = 375", "shell(0, 0) = 294", "shell(0, 1) = 300",
        "go(3, 1) = 3", "shell(1, 0) = 337", "shell(1, 1) = 375", "state(5) = 375").end();
  }

  private static void greenFrom750() {
    boolean[] seen = new boolean[3];
    int[] warmths = {749, 750, 751};
    for (int pass = 1; pass <= 30; pass++) {
      for (int box = 0; box <= 300; box += 12) {
        EggMinute x = egg(2, 2, box, pass);
        x.keep(1, 1, 7, 50);
        for (int s = 0; s < 60; s++) {
          int before = x.state(3);
          x.go(1, 1);
          int at = indexOf(warmths, x.shell(1, 0));
          if (at >= 0) {
            seen[at] = true;
            check.due("green at " + warmths[at], x.state(3) - before, at == 0 ? 0 : 1);
          }
        }
      }
    }
    for (int i = 0; i < 3; i++) {
      check.dueTrue("a warmth of " + warmths[i] + " comes up", seen[i]);
    }
  }

  private static void greenOfTheOutmostYolk() {
    for (int y = 0; y <= 12; y++) {
      EggMinute x = egg(5, y, 300, 30);
      x.keep(1, 1, 1, 0);
      int outmost = Math.min(y, 5) - 1;
      int due = 0;
      for (int s = 0; s < 90; s++) {
        x.go(1, 1);
        due += outmost >= 0 && x.shell(outmost, 0) >= 750 ? 1 : 0;
      }
      check.due("green, Y " + y, x.state(3), due);
      check.dueTrue("greens, if there is a yolk", due > 0 == y > 0);
    }
  }

  private static void looseBelow100() {
    boolean below = false;
    boolean just = false;
    for (int figure = 0; figure <= 60; figure++) {
      EggMinute x = egg(2, 0, 300, 30);
      x.keep(1, 1, 3, figure);
      for (int s = 0; s < 95; s++) {
        x.go(1, 1);
        int inner = x.shell(0, 2);
        int outer = x.shell(1, 2);
        int loose = (inner < 100 ? 1 : 0) + (outer < 100 ? 1 : 0);
        below |= inner == 99 || outer == 99;
        just |= inner == 100 || outer == 100;
        check.due("loose", x.state(4), loose);
        check.due("spin", x.spin(), 40 - 2 * loose);
      }
    }
    check.dueTrue("99 and 100 come up", below && just);
  }
}
