/** Promises 10 to 12: least, near, found. */
public final class WantsTest {
  private static final Check check = new Check("WantsTest");

  public static void main(String[] args) {
    least();
    leastIsInMind();
    near();
    nearOfTwoTheWrongWayRound();
    found();
    foundAsEachByItself();
    refusalsOfTwo();
    foundRefusals();
    check.end();
  }

  /** Two SHELLS, yolk 0, 22, 56 and white 150, 255, 332 behind SECONDS 1, 2, 3 of a BOILED. */
  private static EggMinute small() {
    EggMinute x = Check.eggOf("n2;y1;b0;p10;");
    x.keep(1, 1, 1, 0);
    return x;
  }

  private static int leastOf(EggMinute x, int... four) {
    Check.numbers(x, 2, 1, four);
    return x.least(1, 2);
  }

  private static void least() {
    EggMinute x = small();
    check.due("least at once", leastOf(x, 0, 1200, 0, 1200), 1);
    check.due("least, the white's least", leastOf(x, 151, 1200, 0, 1200), 2);
    check.due("least, the white's most", leastOf(x, 0, 150, 0, 1200), 1);
    check.due("least, the yolk's least", leastOf(x, 0, 1200, 23, 1200), 3);
    check.due("least, both just", leastOf(x, 255, 255, 22, 22), 2);
    check.due("least, never", leastOf(x, 0, 254, 22, 1200), -4);
    check.due("least, as it is at first isn't enough", leastOf(x, 0, 149, 0, 1200), -4);
    x.keep(1, 1, 5, 1);
    check.due("least, peaks stay when it cools", leastOf(x, 700, 1200, 1200, 1200), -4);
    EggMinute slow = new EggMinute();
    slow.keep(1, 1, 2, 0);
    int last = new PlainEgg().least(2, 0, new int[] {636, 1200, 0, 1200}, 700);
    int within = 0;
    for (int w = 300; w <= 700; w++) {
      int due = new PlainEgg().least(2, 0, new int[] {w, 1200, 0, 1200}, 600);
      within += due > 590 ? 1 : 0;
      if (w % 40 == 0 || due > 590) {
        check.due("least, white at " + w, leastOf(slow, w, 1200, 0, 1200), due);
      }
    }
    check.dueTrue("some are near the 600", within > 0 && last != 0);
  }

  private static void leastIsInMind() {
    EggMinute x = small();
    x.go(1, 5);
    int all = x.state(1);
    check.due("least of a fresh egg", leastOf(x, 255, 255, 22, 22), 2);
    check.due("near of a fresh egg", x.near(1, 2, 9, 1), 2);
    check.due("the second stays", x.state(0), 5);
    check.due("the warmths stay", x.state(1), all);
  }

  private static int nearOf(EggMinute x, int n, int what, int... four) {
    Check.numbers(x, 2, 2, four);
    return x.near(1, 2, n, what);
  }

  private static void near() {
    EggMinute x = small();
    check.due("near, 1: how far", nearOf(x, 1, 0, 300, 310, 60, 70), 150 + 60);
    check.due("near, 1: when", nearOf(x, 1, 1, 300, 310, 60, 70), 1);
    check.due("near, 2: how far", nearOf(x, 2, 0, 300, 310, 60, 70), 45 + 38);
    check.due("near, 2: when", nearOf(x, 2, 1, 300, 310, 60, 70), 2);
    check.due("near, 3: how far", nearOf(x, 3, 0, 300, 310, 60, 70), 22 + 4);
    check.due("near, 3: when", nearOf(x, 3, 1, 300, 310, 60, 70), 3);
    check.due("near, had: how far", nearOf(x, 600, 0, 255, 332, 22, 56), 0);
    check.due("near, had: the first", nearOf(x, 600, 1, 255, 332, 22, 56), 2);
    check.due("near, above from the first", nearOf(x, 600, 0, 0, 100, 0, 1200), 50);
    check.due("near, above: when", nearOf(x, 600, 1, 0, 100, 0, 1200), 1);
    x.keep(1, 1, 5, 0);
    // at 20 the pot warms them to peaks of 8 and 14, which are there from second 18 on
    check.due("near: how far", nearOf(x, 600, 0, 100, 100, 100, 100), 92 + 86);
    check.due("near: of several seconds the first", nearOf(x, 600, 1, 100, 100, 100, 100), 18);
    int[] far = new PlainEgg().near(1, 0, new int[] {1200, 1200, 1200, 1200}, 600);
    EggMinute six = new EggMinute();
    six.keep(1, 1, 1, 0);
    check.due("near, up to 600: how far", nearOf(six, 600, 0, 1200, 1200, 1200, 1200), far[0]);
    check.due("near, up to 600: when", nearOf(six, 600, 1, 1200, 1200, 1200, 1200), far[1]);
  }

  private static void nearOfTwoTheWrongWayRound() {
    EggMinute x = small();
    // white 150 is 50 below 200 and 30 above 120
    check.due("off from both", nearOf(x, 1, 0, 200, 120, 0, 0), 80);
    check.due("off from the least only", nearOf(x, 1, 0, 200, 160, 0, 0), 50);
    check.due("off from the most only", nearOf(x, 1, 0, 140, 120, 0, 0), 30);
  }

  private static int foundOf(EggMinute x, int n, int what, int... four) {
    Check.numbers(x, 2, 1, four);
    return x.found(2, n, what);
  }

  private static void found() {
    EggMinute x = small();
    check.due("found at once: figure", foundOf(x, 1, 0, 0, 1200, 0, 1200), 0);
    check.due("found at once: second", foundOf(x, 1, 1, 0, 1200, 0, 1200), 1);
    // 255 comes at second 2 only if the turn hasn't come yet
    check.due("found at 2: figure", foundOf(x, 300, 0, 255, 1200, 0, 1200), 1);
    check.due("found at 2: second", foundOf(x, 300, 1, 255, 1200, 0, 1200), 2);
    check.due("found at 3: figure", foundOf(x, 3, 0, 332, 1200, 56, 1200), 2);
    check.due("found at 3: second", foundOf(x, 3, 1, 332, 1200, 56, 1200), 3);
    check.due("not within 2: figure", foundOf(x, 2, 0, 332, 1200, 56, 1200), -4);
    check.due("not within 2: second", foundOf(x, 2, 1, 332, 1200, 56, 1200), -4);
    check.due("found none", foundOf(x, 300, 0, 1200, 1200, 0, 1200), -4);
    x.go(1, 7);
    check.due("found is in mind", foundOf(x, 300, 0, 255, 1200, 0, 1200), 1);
    check.due("found leaves the egg", x.state(0), 7);
  }

  private static void foundAsEachByItself() {
    int[][] wants = {{500, 800, 300, 700}, {620, 900, 500, 800}, {300, 500, 200, 400}, {600, 700, 550, 650}};
    int several = 0;
    for (int[] want : wants) {
      EggMinute x = Check.eggOf("n3;y2;p20;");
      PlainEgg plain = new PlainEgg();
      plain.shells = 3;
      plain.y = 2;
      plain.pass = 20;
      int[] due = plain.found(want, 300);
      several += due[0] > 0 ? 1 : 0;
      check.due("found: figure", foundOf(x, 300, 0, want), due[0]);
      check.due("found: second", foundOf(x, 300, 1, want), due[1]);
    }
    check.dueTrue("some have a figure", several > 0);
  }

  private static void refusalsOfTwo() {
    EggMinute x = small();
    Check.numbers(x, 2, 1, 0, 1200, 0, 1200);
    x.row(3, 0, 4);
    x.row(4, 1, 3);
    Check.numbers(x, 5, 2, 0, 1200, 0, 1201);
    int[][] pairs = {{-1, 2}, {8, 2}, {1, -1}, {1, 8}, {0, 8}, {0, 2}, {1, 0}, {0, 3}, {2, 0}, {2, 2}, {1, 1}, {1, 3},
      {3, 4}, {1, 4}, {1, 5}};
    int[] due = {-1, -1, -1, -1, -1, -11, -11, -11, -11, -12, -12, -12, -12, -13, -13};
    for (int i = 0; i < pairs.length; i++) {
      int d = pairs[i][0];
      int e = pairs[i][1];
      check.due("least(" + d + ", " + e + ")", x.least(d, e), due[i]);
      check.due("near(" + d + ", " + e + ", 5, 0)", x.near(d, e, 5, 0), due[i]);
    }
    check.due("near, n 0", x.near(1, 2, 0, 0), -1);
    check.due("near, n 601", x.near(1, 2, 601, 0), -1);
    check.due("near, what -1", x.near(1, 2, 5, -1), -1);
    check.due("near, what 2", x.near(1, 2, 5, 2), -1);
    check.due("near, -1 ahead of -11", x.near(0, 0, 0, 0), -1);
    check.due("near, n 600", x.near(1, 2, 600, 1), 1);
  }

  private static void foundRefusals() {
    EggMinute x = small();
    Check.numbers(x, 2, 1, 0, 1200, 0, 1200);
    check.due("found(-1, 5, 0)", x.found(-1, 5, 0), -1);
    check.due("found(8, 5, 0)", x.found(8, 5, 0), -1);
    check.due("found(2, 0, 0)", x.found(2, 0, 0), -1);
    check.due("found(2, 301, 0)", x.found(2, 301, 0), -1);
    check.due("found(2, 5, -1)", x.found(2, 5, -1), -1);
    check.due("found(2, 5, 2)", x.found(2, 5, 2), -1);
    check.due("found, -1 ahead of -11", x.found(0, 0, 0), -1);
    check.due("found of nothing", x.found(0, 5, 0), -11);
    check.due("found of a doing", x.found(1, 5, 0), -12);
    x.row(3, 0, 4);
    check.due("found of bytes", x.found(3, 5, 0), -12);
    x.row(3, 2, 5);
    check.due("found of five", x.found(3, 5, 0), -13);
    Check.numbers(x, 3, 2, 0, -1, 0, 0);
    check.due("found of -1", x.found(3, 5, 0), -13);
  }
}
