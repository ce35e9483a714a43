/** Promises 13 to 21: bears, off, size, table, cracks, peels, spin, told, judge. */
public final class HowMuchTest {
  private static final Check check = new Check("HowMuchTest");

  public static void main(String[] args) {
    bears();
    bearsRefusals();
    off();
    offRefusals();
    size();
    table();
    sizeAndTableRefusals();
    cracks();
    peels();
    cracksAndPeelsRefusals();
    spin();
    told();
    judge();
    judgeRefusals();
    check.end();
  }

  private static int bearsOf(EggMinute x, int figure, int n, int... kinds) {
    Check.numbers(x, 5, 0, kinds);
    return x.bears(5, figure, n);
  }

  private static void bears() {
    EggMinute x = new EggMinute();
    check.due("bears, one", bearsOf(x, 0, 1, 3), 0);
    // behind 1 second no doing has come to the middle
    check.due("bears, of several the first", bearsOf(x, 10, 1, 7, 1, 0, 4), 0);
    // a STOPPED with 0 warms nothing, so that the boxes differ by 160; a BOILED brings them together
    check.due("bears, boiled", bearsOf(x, 0, 600, 5, 5, 1, 1), 2);
    int[] kinds = {5, 0, 3, 2, 4, 6, 7, 1, 0, 5};
    for (int figure = 0; figure <= 60; figure += 12) {
      EggMinute other = new EggMinute();
      for (int n = 50; n <= 600; n += 110) {
        check.due("bears of all", bearsOf(other, figure, n, kinds), new PlainEgg().bears(kinds, figure, n));
      }
    }
    int[] hundred = new int[100];
    for (int i = 0; i < 100; i++) {
      hundred[i] = i < 97 ? 5 : 1;
    }
    check.due("bears, of a hundred", bearsOf(x, 0, 400, hundred), 97);
    check.due("bears leaves the box", x.count(2), 50);
    check.due("bears leaves the egg", x.state(0), 0);
    check.due("bears doesn't go by the box", x.set(2, 300), 50);
    check.due("bears of all, another box", bearsOf(x, 12, 160, kinds), new PlainEgg().bears(kinds, 12, 160));
  }

  private static void bearsRefusals() {
    EggMinute x = new EggMinute();
    Check.numbers(x, 5, 0, 1, 2);
    check.due("bears(-1, 0, 5)", x.bears(-1, 0, 5), -1);
    check.due("bears(8, 0, 5)", x.bears(8, 0, 5), -1);
    check.due("bears(5, -1, 5)", x.bears(5, -1, 5), -1);
    check.due("bears(5, 61, 5)", x.bears(5, 61, 5), -1);
    check.due("bears(5, 60, 5)", x.bears(5, 60, 5), 0);
    check.due("bears(5, 0, 0)", x.bears(5, 0, 0), -1);
    check.due("bears(5, 0, 601)", x.bears(5, 0, 601), -1);
    check.due("bears, -1 ahead of -11", x.bears(4, 0, 0), -1);
    check.due("bears of nothing", x.bears(4, 0, 5), -11);
    x.keep(4, 1, 1, 1);
    check.due("bears of a doing", x.bears(4, 0, 5), -12);
    x.row(4, 1, 3);
    check.due("bears of shorts", x.bears(4, 0, 5), -12);
    x.row(4, 2, 0);
    check.due("bears of no ints", x.bears(4, 0, 5), -12);
    x.row(4, 0, 0);
    check.due("bears of none", x.bears(4, 0, 5), -13);
    check.due("bears, kind 8", bearsOf(x, 0, 5, 1, 1, 8), -13);
    check.due("bears, kind -1", bearsOf(x, 0, 5, 1, -1, 1), -13);
    check.due("bears, kind 255 is -1", bearsOf(x, 0, 5, 255), -13);
    check.due("bears, kind 256 is 0", bearsOf(x, 0, 5, 256), 0);
  }

  private static void off() {
    EggMinute x = Check.eggOf("n2;y1;b0;p10;");
    x.keep(1, 1, 1, 0);
    // three shells: the middle gets nothing in 2 seconds; two: 22
    check.due("off behind 1", x.off(1, 1), 0);
    check.due("off behind 2", x.off(1, 2), -22);
    x.keep(1, 1, 5, 0);
    x.set(2, 300);
    // cooled: two shells 294, three still 300
    check.due("off may be above 0", x.off(1, 2), 6);
    EggMinute big = Check.eggOf("n12;p30;");
    big.keep(1, 1, 1, 0);
    check.due("off with 12", big.off(1, 100), big.table(1, 12, 100) - big.table(1, 11, 100));
    check.dueTrue("off with 12 is below 0", big.off(1, 100) < 0);
    big.set(0, 11);
    check.due("off with 11", big.off(1, 100), big.table(1, 12, 100) - big.table(1, 11, 100));
    big.set(0, 10);
    check.due("off with 10", big.off(1, 600), big.table(1, 11, 600) - big.table(1, 10, 600));
    big.go(1, 50);
    check.due("off is of a fresh egg", big.off(1, 600), big.table(1, 11, 600) - big.table(1, 10, 600));
    check.due("off leaves the egg", big.state(0), 50);
    check.due("off leaves the shells", big.count(0), 10);
  }

  private static void offRefusals() {
    EggMinute x = new EggMinute();
    x.keep(1, 1, 1, 0);
    x.row(2, 0, 1);
    check.due("off(-1, 1)", x.off(-1, 1), -1000000001);
    check.due("off(8, 1)", x.off(8, 1), -1000000001);
    check.due("off(1, 0)", x.off(1, 0), -1000000001);
    check.due("off(1, 601)", x.off(1, 601), -1000000001);
    check.due("off, -1 first", x.off(3, 0), -1000000001);
    check.due("off of nothing", x.off(3, 1), -1000000011);
    check.due("off of a row", x.off(2, 1), -1000000012);
  }

  private static void size() {
    EggMinute x = Check.eggOf("y1;b0;p10;");
    x.keep(1, 1, 1, 0);
    check.due("size, 0 is there at once", x.size(1, 2, 0), 1);
    check.due("size, 1", x.size(1, 2, 1), 2);
    check.due("size, just 22", x.size(1, 2, 22), 2);
    check.due("size, 23", x.size(1, 2, 23), 3);
    check.due("size, never", x.size(1, 2, 1200), -4);
    check.due("size, 12 shells", x.size(1, 12, 300), new PlainEggOf(0, 1, 10).egg.size(1, 0, 12, 300));
    x.keep(1, 1, 5, 1);
    // it warms up and cools again: the first time counts
    check.due("size, first", x.size(1, 2, 200), new PlainEggOf(0, 1, 10).egg.size(5, 1, 2, 200));
    x.keep(1, 1, 2, 0);
    int near = 0;
    for (int warmth = 300; warmth <= 700; warmth++) {
      int due = new PlainEggOf(0, 1, 10).egg.size(2, 0, 2, warmth);
      if (due == 600 || due == -4 && near < 3) {
        near++;
        check.due("size, near 600", x.size(1, 2, warmth), due);
      }
    }
    check.dueTrue("some are near 600", near > 0);
    check.due("size leaves the shells", x.count(0), 6);
  }

  private static final class PlainEggOf {
    final PlainEgg egg = new PlainEgg();

    PlainEggOf(int box, int y, int pass) {
      egg.box = box;
      egg.y = y;
      egg.pass = pass;
      egg.fresh();
    }
  }

  private static void table() {
    EggMinute x = Check.eggOf("n7;y1;b0;p10;");
    x.keep(1, 1, 1, 0);
    check.due("table, 1", x.table(1, 2, 1), 0);
    check.due("table, 2", x.table(1, 2, 2), 22);
    check.due("table, 3", x.table(1, 2, 3), 56);
    x.go(1, 44);
    check.due("table is of a fresh egg", x.table(1, 2, 3), 56);
    check.due("table leaves the second", x.state(0), 44);
    check.due("table leaves the shells", x.count(0), 7);
    for (int n = 2; n <= 12; n++) {
      check.due("table with " + n, x.table(1, n, 600), new PlainEggOf(0, 1, 10).egg.table(1, 0, n, 600));
    }
  }

  private static void sizeAndTableRefusals() {
    EggMinute x = new EggMinute();
    x.keep(1, 1, 1, 0);
    x.row(2, 0, 1);
    int[][] wrong = {{-1, 5}, {8, 5}, {1, 1}, {1, 13}, {3, 1}};
    for (int[] w : wrong) {
      check.due("size of " + w[0] + ", " + w[1], x.size(w[0], w[1], 5), -1);
      check.due("table of " + w[0] + ", " + w[1], x.table(w[0], w[1], 5), -1);
    }
    check.due("size, warmth -1", x.size(1, 2, -1), -1);
    check.due("size, warmth 1201", x.size(1, 2, 1201), -1);
    check.due("table, t 0", x.table(1, 2, 0), -1);
    check.due("table, t 601", x.table(1, 2, 601), -1);
    check.due("size of nothing", x.size(3, 2, 5), -11);
    check.due("table of nothing", x.table(3, 2, 5), -11);
    check.due("size of a row", x.size(2, 2, 5), -12);
    check.due("table of a row", x.table(2, 2, 5), -12);
  }

  private static void cracks() {
    EggMinute x = new EggMinute();
    x.keep(1, 1, 1, 0);
    x.keep(2, 1, 2, 60);
    x.keep(3, 1, 7, 60);
    // 950 is more than 900 less 60
    check.due("cracks at a boil", x.cracks(1), 1);
    check.due("cracks begun cold", x.cracks(2), 0);
    check.due("cracks on a hill: 710 isn't more than 840", x.cracks(3), 0);
    x.set(2, 160);
    check.due("840 isn't more than 840", x.cracks(1), 0);
    x.set(2, 159);
    check.due("841 is", x.cracks(1), 1);
    x.set(5, 0);
    check.due("841 isn't more than 900", x.cracks(1), 0);
    x.set(2, 99);
    check.due("901 is", x.cracks(1), 1);
    x.set(5, 20);
    x.set(2, 300);
    check.due("700 is more than 500", x.cracks(1), 1);
    check.due("460 isn't", x.cracks(3), 0);
    x.go(1, 600);
    check.due("the pot at second 0, and the box, count", x.cracks(1), 1);
  }

  private static void peels() {
    int[] byKind = {0, 40, 0, 0, 40, 40, 40, 40};
    for (int kind = 0; kind < 8; kind++) {
      EggMinute x = new EggMinute();
      x.keep(1, 1, kind, 30);
      check.due("peels, kind " + kind, x.peels(1), 21 + byKind[kind]);
      x.set(4, 0);
      check.due("peels, age 0, kind " + kind, x.peels(1), byKind[kind]);
      x.set(4, 20);
      check.due("peels, age 20, kind " + kind, x.peels(1), 60 + byKind[kind]);
      x.set(4, 21);
      check.due("peels, age 21, kind " + kind, x.peels(1), byKind[kind] == 0 ? 63 : 100);
      x.set(4, 33);
      check.due("peels, age 33, kind " + kind, x.peels(1), byKind[kind] == 0 ? 99 : 100);
      x.set(4, 60);
      check.due("peels, age 60, kind " + kind, x.peels(1), 100);
    }
  }

  private static void cracksAndPeelsRefusals() {
    EggMinute x = new EggMinute();
    x.row(2, 1, 1);
    int[] shelves = {-1, 8, 3, 2};
    int[] due = {-1, -1, -11, -12};
    for (int i = 0; i < 4; i++) {
      check.due("cracks(" + shelves[i] + ")", x.cracks(shelves[i]), due[i]);
      check.due("peels(" + shelves[i] + ")", x.peels(shelves[i]), due[i]);
    }
  }

  private static void spin() {
    for (int n = 2; n <= 12; n++) {
      EggMinute x = new EggMinute();
      x.set(0, n);
      check.due("spin of " + n + " loose ones", x.spin(), 40 - 2 * n);
    }
    EggMinute x = new EggMinute();
    x.keep(1, 1, 1, 0);
    for (int i = 0; i < 30; i++) {
      x.go(1, 10);
      check.due("spin at " + x.state(0), x.spin(), (20 - x.state(4)) * 2);
    }
    check.due("spin, none is loose", x.spin(), 40);
  }

  private static void told() {
    EggMinute x = new EggMinute();
    check.due("told(40, 0, true)", x.told(40, 0, true), 0);
    check.due("told(28, 0, false)", x.told(28, 0, false), 6);
    check.due("told(26, 0, false): no seven shells", x.told(26, 0, false), -4);
    check.due("told(26, 1, false)", x.told(26, 1, false), -4);
    check.due("told(26, 2, false)", x.told(26, 2, false), 6);
    check.due("told(26, 2, true)", x.told(26, 2, true), 6);
    check.due("told(33, 0, true)", x.told(33, 0, true), -4);
    check.due("told(33, 1, false)", x.told(33, 1, false), 3);
    check.due("told(33, 1, true)", x.told(33, 1, true), 4);
    check.due("told(33, 40, false)", x.told(33, 40, false), 0);
    check.due("told(33, 40, true)", x.told(33, 40, true), 6);
    check.due("told(41, 0, true)", x.told(41, 0, true), -4);
    check.due("told(80, 40, true)", x.told(80, 40, true), 0);
    check.due("told(81, 40, true)", x.told(81, 40, true), -4);
    check.due("told(-12, 40, false)", x.told(-12, 40, false), 6);
    check.due("told(-13, 40, false)", x.told(-13, 40, false), -4);
    check.due("told, far above", x.told(Integer.MAX_VALUE, 40, true), -4);
    check.due("told, far below", x.told(Integer.MIN_VALUE, 40, false), -4);
    check.due("told, n -1", x.told(40, -1, true), -1);
    check.due("told, n 41", x.told(40, 41, false), -1);
    x.set(0, 12);
    check.due("told, 12 shells", x.told(16, 0, true), 12);
    check.due("told, 12 shells, no more", x.told(14, 0, true), -4);
  }

  private static int judgeOf(EggMinute x, int shell, int sort, int... readings) {
    Check.numbers(x, 5, sort, readings);
    return x.judge(shell, 1, 5);
  }

  private static void judge() {
    EggMinute x = Check.eggOf("n2;y1;b0;p10;");
    x.keep(1, 1, 1, 0);
    check.due("judge, all so", judgeOf(x, 0, 1, 0, 22, 56), -4);
    check.due("judge, all so, the white", judgeOf(x, 1, 2, 150, 255, 332), -4);
    check.due("judge, bytes", judgeOf(x, 0, 0, 0, 22, 56), -4);
    check.due("judge, none", judgeOf(x, 0, 0), -4);
    check.due("judge, place 0", judgeOf(x, 0, 1, 1, 22, 57), 0);
    check.due("judge, place 1", judgeOf(x, 0, 1, 0, 23, 57), 1);
    check.due("judge, place 2", judgeOf(x, 0, 1, 0, 22, 57), 2);
    check.due("judge, 150 is no byte", judgeOf(x, 1, 0, 150), 0);
    check.due("judge, bytes skipped", judgeOf(x, 1, 0, -128, 128, -127), 2);
    check.due("judge, shorts skipped", judgeOf(x, 1, 1, -32768, 32768, 332, -32767), 3);
    check.due("judge, -128 in shorts isn't", judgeOf(x, 1, 1, -128), 0);
    check.due("judge, -32768 in ints isn't", judgeOf(x, 1, 2, -32768), 0);
    check.due("judge, ints skipped", judgeOf(x, 1, 2, Integer.MIN_VALUE, 255, -1), 2);
    check.due("judge, all skipped", judgeOf(x, 1, 2, Integer.MIN_VALUE, Integer.MIN_VALUE), -4);
    x.go(1, 9);
    check.due("judge is of a fresh egg", judgeOf(x, 0, 1, 0, 22, 56), -4);
    check.due("judge leaves the egg", x.state(0), 9);
    EggMinute far = new EggMinute();
    far.keep(1, 1, 4, 7);
    int[] readings = new int[100];
    PlainEgg plain = new PlainEgg();
    for (int i = 0; i < 100; i++) {
      plain.second(4, 7);
      readings[i] = plain.warmth[5];
    }
    check.due("judge, 100 readings", judgeOf(far, 5, 1, readings), -4);
    readings[99]++;
    check.due("judge, the 100th", judgeOf(far, 5, 1, readings), 99);
  }

  private static void judgeRefusals() {
    EggMinute x = new EggMinute();
    x.keep(1, 1, 1, 0);
    x.row(2, 1, 3);
    check.due("judge(-1, 1, 2)", x.judge(-1, 1, 2), -1);
    check.due("judge(6, 1, 2)", x.judge(6, 1, 2), -1);
    check.due("judge(0, -1, 2)", x.judge(0, -1, 2), -1);
    check.due("judge(0, 8, 2)", x.judge(0, 8, 2), -1);
    check.due("judge(0, 1, -1)", x.judge(0, 1, -1), -1);
    check.due("judge(0, 1, 8)", x.judge(0, 1, 8), -1);
    check.due("judge(6, 3, 3)", x.judge(6, 3, 3), -1);
    check.due("judge(0, 3, 2)", x.judge(0, 3, 2), -11);
    check.due("judge(0, 1, 3)", x.judge(0, 1, 3), -11);
    check.due("judge(0, 2, 3)", x.judge(0, 2, 3), -11);
    check.due("judge(0, 3, 1)", x.judge(0, 3, 1), -11);
    check.due("judge(0, 2, 2)", x.judge(0, 2, 2), -12);
    check.due("judge(0, 1, 1)", x.judge(0, 1, 1), -12);
    x.set(0, 2);
    check.due("judge(2, 1, 2)", x.judge(2, 1, 2), -1);
  }
}
